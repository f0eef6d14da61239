def fx_R_vertices_1 (u : Nat → Bool) (aX : Nat → Int32) (aY : Nat → Int32) (bX : Nat → Int32) (bY : Nat → Int32) (k : Nat) (cnt : Nat) : Nat := cnt
def fb_R_vertices_1 (u : Nat → Bool) (aX : Nat → Int32) (aY : Nat → Int32) (bX : Nat → Int32) (bY : Nat → Int32) (rec : (Nat) → (Nat) → Nat) (k : Nat) (cnt : Nat) : Nat := if u k = true then (if (f_R_firstAt u aX aY bX bY (aX k) (aY k)) = k then (if (f_R_firstAt u aX aY bX bY (bX k) (bY k)) = k then (rec (k + 1) (cnt + 2)) else (rec (k + 1) (cnt + 1))) else (if (f_R_firstAt u aX aY bX bY (bX k) (bY k)) = k then (rec (k + 1) (cnt + 1)) else (rec (k + 1) (cnt + 0)))) else (rec (k + 1) cnt)
def fl_R_vertices_1 (u : Nat → Bool) (aX : Nat → Int32) (aY : Nat → Int32) (bX : Nat → Int32) (bY : Nat → Int32) : Nat → (Nat) → (Nat) → Nat
  | 0, k, cnt => fx_R_vertices_1 u aX aY bX bY k cnt
  | n1 + 1, k, cnt => fb_R_vertices_1 u aX aY bX bY (fl_R_vertices_1 u aX aY bX bY n1) k cnt
def f_R_vertices (u : Nat → Bool) (aX : Nat → Int32) (aY : Nat → Int32) (bX : Nat → Int32) (bY : Nat → Int32) : Nat := fl_R_vertices_1 u aX aY bX bY 20 0 0
theorem i_R_vertices : inV y_R_vertices b_R_vertices 3 (some .int) 0 := ⟨kM_y_R_vertices, kV_y_R_vertices, kI_R, kY_y_R_vertices, by decide +kernel⟩
set_option maxHeartbeats 4000000 in
set_option maxRecDepth 100000 in
theorem c_R_vertices (l : Launch) (D : va_G) (q0 qu qa qb qc qd qe qf qg qh : Nat) (cZ cI : ClassId) (u : Nat → Bool) (aX aY bX bY : Nat → Int32) (kn : Bool) (lns : Nat) (ln : Nat → Int32) (ac mn sm : Nat → Nat) : PM l y_R_vertices b_R_vertices 3 (some .int) 2 47 D (refW q0 qu qa qb qc qd qe qf qg qh cZ cI u aX aY bX bY kn lns ln ac mn sm) [(cZ, .boolean), (cI, .int)] [.ref q0] (nI (f_R_vertices u aX aY bX bY)) := by
  refine pMet rfl (fun p e s m below meth c S hr hlk hP hK ls hl => ?_) (Nat.le_of_ble_eq_true rfl)
  have hx := S.1
  have hb := S.2.1
  have hl : lv_has ls 3 [(0, .ref q0)] := hl
  refine lv_iconst (v := 0) hx hb d_R_vertices_0 (by decide) ?_
  refine lv_istore_n (lv' := [(1, .int 0), (0, .ref q0)]) hx hb d_R_vertices_1 rfl hl (by decide) rfl (fun ls hl => ?_)
  refine lv_iconst (v := 0) hx hb d_R_vertices_2 (by decide) ?_
  refine lv_istore_n (lv' := [(2, .int 0), (1, .int 0), (0, .ref q0)]) hx hb d_R_vertices_3 rfl hl (by decide) rfl (fun ls hl => ?_)
  have key1 : ∀ (n1 : Nat) (k : Nat) (cnt : Nat) (hk1 : k + n1 = 20) (ls : Array Slot) (hl : lv_has ls 3 [(0, .ref q0), (1, .int (nI (cnt))), (2, .int (nI (k)))]) (hf : f_R_vertices u aX aY bX bY = fl_R_vertices_1 u aX aY bX bY n1 k cnt), W p l e { frames := 2, cells := 0, slots := 0, locals := 47 } s m [.ref q0].toArray below meth c s.heap [] 0 0 (MQ below (pQ (nI (f_R_vertices u aX aY bX bY))) [.ref q0].toArray s 0 0 (fun _ => False)) (F0 m 4 ls []) := by
    clear hl
    intro n1
    induction n1 with
    | zero =>
      intro k cnt hk1 ls hl hf
      refine lv_iload_n hx hb d_R_vertices_4 rfl (lv_at hl 2 rfl) ?_
      refine lv_bipush (v := 20) hx hb d_R_vertices_5 (by decide) ?_
      refine lv_icmp_ge (tgt := 79) hx hb d_R_vertices_7 (by decide) (fun c1 => ?_) (fun c1 => ?_)
      · have c1a : 20 ≤ k := (nI_leI (a := 20) (b := k) (by decide) (by omega)).mp c1
        refine lv_iload_n hx hb d_R_vertices_79 rfl (lv_at hl 1 rfl) ?_
        exact rret S hr hlk (v := nI (cnt)) (congrArg nI (hf.trans (show fx_R_vertices_1 u aX aY bX bY k cnt = cnt from rfl)).symm) d_R_vertices_80
      · have c1a : ¬ (20 ≤ k) := fun h => c1 ((nI_leI (a := 20) (b := k) (by decide) (by omega)).mpr h)
        omega
    | succ n1 ih1 =>
      intro k cnt hk1 ls hl hf
      refine lv_iload_n hx hb d_R_vertices_4 rfl (lv_at hl 2 rfl) ?_
      refine lv_bipush (v := 20) hx hb d_R_vertices_5 (by decide) ?_
      refine lv_icmp_ge (tgt := 79) hx hb d_R_vertices_7 (by decide) (fun c2 => ?_) (fun c2 => ?_)
      · have c2a : 20 ≤ k := (nI_leI (a := 20) (b := k) (by decide) (by omega)).mp c2
        omega
      · have c2a : ¬ (20 ≤ k) := fun h => c2 ((nI_leI (a := 20) (b := k) (by decide) (by omega)).mpr h)
        refine lv_aload_n hx hb d_R_vertices_10 rfl (lv_at hl 0 rfl) ?_
        refine rget S hK hP 0 rfl rfl in_R 0 (by decide) kF_R_7 rfl d_R_vertices_11 ?_
        refine lv_iload_n hx hb d_R_vertices_14 rfl (lv_at hl 2 rfl) ?_
        refine rzald (j := k) S hK hP 1 0 rfl rfl (by omega) (by first | decide | omega) d_R_vertices_15 ?_
        refine lv_if_eq (tgt := 73) hx hb d_R_vertices_16 (by decide) (fun c3 => ?_) (fun c3 => ?_)
        · have c3a : ¬ (u k = true) := b2n (b2i_eq0.mp c3)
          refine lv_iinc (v := nI (k + 1)) (lv' := [(2, .int (nI (k + 1))), (0, .ref q0), (1, .int (nI (cnt)))]) hx hb d_R_vertices_73 hl (k := 2) rfl (nI_1 (k)) (by decide) rfl (fun ls hl => ?_)
          refine lv_goto (tgt := 4) hx hb d_R_vertices_76 (by decide) ?_
          exact ih1 (k + 1) cnt (by omega) ls (lv_sub hl [1, 2, 0] rfl) (hf.trans (show fb_R_vertices_1 u aX aY bX bY (fl_R_vertices_1 u aX aY bX bY n1) k cnt = (fl_R_vertices_1 u aX aY bX bY n1 (k + 1) cnt) from by unfold fb_R_vertices_1; rw [if_neg c3a]))
        · have c3a : u k = true := b2i_ne0.mp c3
          refine lv_iload_n hx hb d_R_vertices_19 rfl (lv_at hl 1 rfl) ?_
          refine lv_aload_n hx hb d_R_vertices_20 rfl (lv_at hl 0 rfl) ?_
          refine lv_aload_n hx hb d_R_vertices_21 rfl (lv_at hl 0 rfl) ?_
          refine rget S hK hP 0 rfl rfl in_R 1 (by decide) kF_R_13 rfl d_R_vertices_22 ?_
          refine lv_iload_n hx hb d_R_vertices_25 rfl (lv_at hl 2 rfl) ?_
          refine riald (j := k) S hK hP 2 1 rfl rfl (by omega) (by first | decide | omega) d_R_vertices_26 ?_
          refine lv_aload_n hx hb d_R_vertices_27 rfl (lv_at hl 0 rfl) ?_
          refine rget S hK hP 0 rfl rfl in_R 2 (by decide) kF_R_17 rfl d_R_vertices_28 ?_
          refine lv_iload_n hx hb d_R_vertices_31 rfl (lv_at hl 2 rfl) ?_
          refine riald (j := k) S hK hP 3 1 rfl rfl (by omega) (by first | decide | omega) d_R_vertices_32 ?_
          refine rcallV (rest := [.int (nI (cnt))]) (v := nI (f_R_firstAt u aX aY bX bY (aX k) (aY k))) S [.int (aX k), .int (aY k)] hK hP [0, 1, 2, 3, 4, 5, 6, 7, 8, 9] rfl [0, 1] rfl (c_R_firstAt l D q0 qu qa qb qc qd qe qf qg qh cZ cI u aX aY bX bY kn lns ln ac mn sm (aX k) (aY k) ) i_R_firstAt kL_R_68 ⟨Nat.le_of_ble_eq_true rfl, Nat.le_of_ble_eq_true rfl⟩ (by exact ⟨Nat.zero_le _, Nat.zero_le _⟩) (q0 := 0) (ci := 3) rfl rfl rfl hl.1 rfl (Nat.le_of_ble_eq_true rfl) d_R_vertices_33 ?_
          have hfa := firstAt_le u aX aY bX bY (aX k) (aY k)
          refine lv_iload_n hx hb d_R_vertices_36 rfl (lv_at hl 2 rfl) ?_
          refine lv_icmp_ne (tgt := 44) hx hb d_R_vertices_37 (by decide) (fun c4 => ?_) (fun c4 => ?_)
          · have c4a : ¬ ((f_R_firstAt u aX aY bX bY (aX k) (aY k)) = k) := fun h => c4 ((nI_eq (a := f_R_firstAt u aX aY bX bY (aX k) (aY k)) (b := k) (by omega) (by omega)).mpr h)
            refine lv_iconst (v := 0) hx hb d_R_vertices_44 (by decide) ?_
            refine lv_aload_n hx hb d_R_vertices_45 rfl (lv_at hl 0 rfl) ?_
            refine lv_aload_n hx hb d_R_vertices_46 rfl (lv_at hl 0 rfl) ?_
            refine rget S hK hP 0 rfl rfl in_R 3 (by decide) kF_R_20 rfl d_R_vertices_47 ?_
            refine lv_iload_n hx hb d_R_vertices_50 rfl (lv_at hl 2 rfl) ?_
            refine riald (j := k) S hK hP 4 1 rfl rfl (by omega) (by first | decide | omega) d_R_vertices_51 ?_
            refine lv_aload_n hx hb d_R_vertices_52 rfl (lv_at hl 0 rfl) ?_
            refine rget S hK hP 0 rfl rfl in_R 4 (by decide) kF_R_23 rfl d_R_vertices_53 ?_
            refine lv_iload_n hx hb d_R_vertices_56 rfl (lv_at hl 2 rfl) ?_
            refine riald (j := k) S hK hP 5 1 rfl rfl (by omega) (by first | decide | omega) d_R_vertices_57 ?_
            refine rcallV (rest := [.int 0, .int (nI (cnt))]) (v := nI (f_R_firstAt u aX aY bX bY (bX k) (bY k))) S [.int (bX k), .int (bY k)] hK hP [0, 1, 2, 3, 4, 5, 6, 7, 8, 9] rfl [0, 1] rfl (c_R_firstAt l D q0 qu qa qb qc qd qe qf qg qh cZ cI u aX aY bX bY kn lns ln ac mn sm (bX k) (bY k) ) i_R_firstAt kL_R_68 ⟨Nat.le_of_ble_eq_true rfl, Nat.le_of_ble_eq_true rfl⟩ (by exact ⟨Nat.zero_le _, Nat.zero_le _⟩) (q0 := 0) (ci := 3) rfl rfl rfl hl.1 rfl (Nat.le_of_ble_eq_true rfl) d_R_vertices_58 ?_
            have hfa := firstAt_le u aX aY bX bY (bX k) (bY k)
            refine lv_iload_n hx hb d_R_vertices_61 rfl (lv_at hl 2 rfl) ?_
            refine lv_icmp_ne (tgt := 69) hx hb d_R_vertices_62 (by decide) (fun c5 => ?_) (fun c5 => ?_)
            · have c5a : ¬ ((f_R_firstAt u aX aY bX bY (bX k) (bY k)) = k) := fun h => c5 ((nI_eq (a := f_R_firstAt u aX aY bX bY (bX k) (bY k)) (b := k) (by omega) (by omega)).mpr h)
              refine lv_iconst (v := 0) hx hb d_R_vertices_69 (by decide) ?_
              refine lv_iadd hx hb d_R_vertices_70 ?_
              refine rtop (y := 0) (by decide) ?_
              refine lv_iadd hx hb d_R_vertices_71 ?_
              refine rtop (y := nI (cnt + 0)) (nI_add (cnt) (0)) ?_
              refine lv_istore_n (lv' := [(1, .int (nI (cnt + 0))), (0, .ref q0), (2, .int (nI (k)))]) hx hb d_R_vertices_72 rfl hl (by decide) rfl (fun ls hl => ?_)
              refine lv_iinc (v := nI (k + 1)) (lv' := [(2, .int (nI (k + 1))), (1, .int (nI (cnt + 0))), (0, .ref q0)]) hx hb d_R_vertices_73 hl (k := 2) rfl (nI_1 (k)) (by decide) rfl (fun ls hl => ?_)
              refine lv_goto (tgt := 4) hx hb d_R_vertices_76 (by decide) ?_
              exact ih1 (k + 1) (cnt + 0) (by omega) ls (lv_sub hl [2, 1, 0] rfl) (hf.trans (show fb_R_vertices_1 u aX aY bX bY (fl_R_vertices_1 u aX aY bX bY n1) k cnt = (fl_R_vertices_1 u aX aY bX bY n1 (k + 1) (cnt + 0)) from by unfold fb_R_vertices_1; rw [if_pos c3a, if_neg c4a, if_neg c5a]))
            · have c5a : (f_R_firstAt u aX aY bX bY (bX k) (bY k)) = k := (nI_eq (a := f_R_firstAt u aX aY bX bY (bX k) (bY k)) (b := k) (by omega) (by omega)).mp c5
              refine lv_iconst (v := 1) hx hb d_R_vertices_65 (by decide) ?_
              refine lv_goto (tgt := 70) hx hb d_R_vertices_66 (by decide) ?_
              refine lv_iadd hx hb d_R_vertices_70 ?_
              refine rtop (y := 1) (by decide) ?_
              refine lv_iadd hx hb d_R_vertices_71 ?_
              refine rtop (y := nI (cnt + 1)) (nI_add (cnt) (1)) ?_
              refine lv_istore_n (lv' := [(1, .int (nI (cnt + 1))), (0, .ref q0), (2, .int (nI (k)))]) hx hb d_R_vertices_72 rfl hl (by decide) rfl (fun ls hl => ?_)
              refine lv_iinc (v := nI (k + 1)) (lv' := [(2, .int (nI (k + 1))), (1, .int (nI (cnt + 1))), (0, .ref q0)]) hx hb d_R_vertices_73 hl (k := 2) rfl (nI_1 (k)) (by decide) rfl (fun ls hl => ?_)
              refine lv_goto (tgt := 4) hx hb d_R_vertices_76 (by decide) ?_
              exact ih1 (k + 1) (cnt + 1) (by omega) ls (lv_sub hl [2, 1, 0] rfl) (hf.trans (show fb_R_vertices_1 u aX aY bX bY (fl_R_vertices_1 u aX aY bX bY n1) k cnt = (fl_R_vertices_1 u aX aY bX bY n1 (k + 1) (cnt + 1)) from by unfold fb_R_vertices_1; rw [if_pos c3a, if_neg c4a, if_pos c5a]))
          · have c4a : (f_R_firstAt u aX aY bX bY (aX k) (aY k)) = k := (nI_eq (a := f_R_firstAt u aX aY bX bY (aX k) (aY k)) (b := k) (by omega) (by omega)).mp c4
            refine lv_iconst (v := 1) hx hb d_R_vertices_40 (by decide) ?_
            refine lv_goto (tgt := 45) hx hb d_R_vertices_41 (by decide) ?_
            refine lv_aload_n hx hb d_R_vertices_45 rfl (lv_at hl 0 rfl) ?_
            refine lv_aload_n hx hb d_R_vertices_46 rfl (lv_at hl 0 rfl) ?_
            refine rget S hK hP 0 rfl rfl in_R 3 (by decide) kF_R_20 rfl d_R_vertices_47 ?_
            refine lv_iload_n hx hb d_R_vertices_50 rfl (lv_at hl 2 rfl) ?_
            refine riald (j := k) S hK hP 4 1 rfl rfl (by omega) (by first | decide | omega) d_R_vertices_51 ?_
            refine lv_aload_n hx hb d_R_vertices_52 rfl (lv_at hl 0 rfl) ?_
            refine rget S hK hP 0 rfl rfl in_R 4 (by decide) kF_R_23 rfl d_R_vertices_53 ?_
            refine lv_iload_n hx hb d_R_vertices_56 rfl (lv_at hl 2 rfl) ?_
            refine riald (j := k) S hK hP 5 1 rfl rfl (by omega) (by first | decide | omega) d_R_vertices_57 ?_
            refine rcallV (rest := [.int 1, .int (nI (cnt))]) (v := nI (f_R_firstAt u aX aY bX bY (bX k) (bY k))) S [.int (bX k), .int (bY k)] hK hP [0, 1, 2, 3, 4, 5, 6, 7, 8, 9] rfl [0, 1] rfl (c_R_firstAt l D q0 qu qa qb qc qd qe qf qg qh cZ cI u aX aY bX bY kn lns ln ac mn sm (bX k) (bY k) ) i_R_firstAt kL_R_68 ⟨Nat.le_of_ble_eq_true rfl, Nat.le_of_ble_eq_true rfl⟩ (by exact ⟨Nat.zero_le _, Nat.zero_le _⟩) (q0 := 0) (ci := 3) rfl rfl rfl hl.1 rfl (Nat.le_of_ble_eq_true rfl) d_R_vertices_58 ?_
            have hfa := firstAt_le u aX aY bX bY (bX k) (bY k)
            refine lv_iload_n hx hb d_R_vertices_61 rfl (lv_at hl 2 rfl) ?_
            refine lv_icmp_ne (tgt := 69) hx hb d_R_vertices_62 (by decide) (fun c6 => ?_) (fun c6 => ?_)
            · have c6a : ¬ ((f_R_firstAt u aX aY bX bY (bX k) (bY k)) = k) := fun h => c6 ((nI_eq (a := f_R_firstAt u aX aY bX bY (bX k) (bY k)) (b := k) (by omega) (by omega)).mpr h)
              refine lv_iconst (v := 0) hx hb d_R_vertices_69 (by decide) ?_
              refine lv_iadd hx hb d_R_vertices_70 ?_
              refine rtop (y := 1) (by decide) ?_
              refine lv_iadd hx hb d_R_vertices_71 ?_
              refine rtop (y := nI (cnt + 1)) (nI_add (cnt) (1)) ?_
              refine lv_istore_n (lv' := [(1, .int (nI (cnt + 1))), (0, .ref q0), (2, .int (nI (k)))]) hx hb d_R_vertices_72 rfl hl (by decide) rfl (fun ls hl => ?_)
              refine lv_iinc (v := nI (k + 1)) (lv' := [(2, .int (nI (k + 1))), (1, .int (nI (cnt + 1))), (0, .ref q0)]) hx hb d_R_vertices_73 hl (k := 2) rfl (nI_1 (k)) (by decide) rfl (fun ls hl => ?_)
              refine lv_goto (tgt := 4) hx hb d_R_vertices_76 (by decide) ?_
              exact ih1 (k + 1) (cnt + 1) (by omega) ls (lv_sub hl [2, 1, 0] rfl) (hf.trans (show fb_R_vertices_1 u aX aY bX bY (fl_R_vertices_1 u aX aY bX bY n1) k cnt = (fl_R_vertices_1 u aX aY bX bY n1 (k + 1) (cnt + 1)) from by unfold fb_R_vertices_1; rw [if_pos c3a, if_pos c4a, if_neg c6a]))
            · have c6a : (f_R_firstAt u aX aY bX bY (bX k) (bY k)) = k := (nI_eq (a := f_R_firstAt u aX aY bX bY (bX k) (bY k)) (b := k) (by omega) (by omega)).mp c6
              refine lv_iconst (v := 1) hx hb d_R_vertices_65 (by decide) ?_
              refine lv_goto (tgt := 70) hx hb d_R_vertices_66 (by decide) ?_
              refine lv_iadd hx hb d_R_vertices_70 ?_
              refine rtop (y := 2) (by decide) ?_
              refine lv_iadd hx hb d_R_vertices_71 ?_
              refine rtop (y := nI (cnt + 2)) (nI_add (cnt) (2)) ?_
              refine lv_istore_n (lv' := [(1, .int (nI (cnt + 2))), (0, .ref q0), (2, .int (nI (k)))]) hx hb d_R_vertices_72 rfl hl (by decide) rfl (fun ls hl => ?_)
              refine lv_iinc (v := nI (k + 1)) (lv' := [(2, .int (nI (k + 1))), (1, .int (nI (cnt + 2))), (0, .ref q0)]) hx hb d_R_vertices_73 hl (k := 2) rfl (nI_1 (k)) (by decide) rfl (fun ls hl => ?_)
              refine lv_goto (tgt := 4) hx hb d_R_vertices_76 (by decide) ?_
              exact ih1 (k + 1) (cnt + 2) (by omega) ls (lv_sub hl [2, 1, 0] rfl) (hf.trans (show fb_R_vertices_1 u aX aY bX bY (fl_R_vertices_1 u aX aY bX bY n1) k cnt = (fl_R_vertices_1 u aX aY bX bY n1 (k + 1) (cnt + 2)) from by unfold fb_R_vertices_1; rw [if_pos c3a, if_pos c4a, if_pos c6a]))
  exact key1 20 0 0 (by omega) ls (lv_sub hl [2, 1, 0] rfl) (show f_R_vertices u aX aY bX bY = (fl_R_vertices_1 u aX aY bX bY 20 0 0) from rfl)
def f_R_touch (u : Nat → Bool) (aX : Nat → Int32) (aY : Nat → Int32) (bX : Nat → Int32) (bY : Nat → Int32) (k : Nat) (j : Nat) : Bool := if f_R_isEnd u aX aY bX bY k (aX j) (aY j) = true then true else (if f_R_isEnd u aX aY bX bY k (bX j) (bY j) = true then true else false)
theorem i_R_touch : inV y_R_touch b_R_touch 3 (some .boolean) 2 := ⟨kM_y_R_touch, kV_y_R_touch, kI_R, kY_y_R_touch, by decide +kernel⟩
set_option maxHeartbeats 4000000 in
set_option maxRecDepth 100000 in
theorem c_R_touch (l : Launch) (D : va_G) (q0 qu qa qb qc qd qe qf qg qh : Nat) (cZ cI : ClassId) (u : Nat → Bool) (aX aY bX bY : Nat → Int32) (kn : Bool) (lns : Nat) (ln : Nat → Int32) (ac mn sm : Nat → Nat) (k : Nat) (j : Nat) (hk : k < 20) (hj : j < 20) : PM l y_R_touch b_R_touch 3 (some .boolean) 1 23 D (refW q0 qu qa qb qc qd qe qf qg qh cZ cI u aX aY bX bY kn lns ln ac mn sm) [(cZ, .boolean), (cI, .int)] [.ref q0, .int (nI (k)), .int (nI (j))] (b2i (f_R_touch u aX aY bX bY k j)) := by
  refine pMet rfl (fun p e s m below meth c S hr hlk hP hK ls hl => ?_) (Nat.le_of_ble_eq_true rfl)
  have hx := S.1
  have hb := S.2.1
  have hl : lv_has ls 3 [(0, .ref q0), (1, .int (nI (k))), (2, .int (nI (j)))] := hl
  refine lv_aload_n hx hb d_R_touch_0 rfl (lv_at hl 0 rfl) ?_
  refine lv_iload_n hx hb d_R_touch_1 rfl (lv_at hl 1 rfl) ?_
  refine lv_aload_n hx hb d_R_touch_2 rfl (lv_at hl 0 rfl) ?_
  refine rget S hK hP 0 rfl rfl in_R 1 (by decide) kF_R_13 rfl d_R_touch_3 ?_
  refine lv_iload_n hx hb d_R_touch_6 rfl (lv_at hl 2 rfl) ?_
  refine riald (j := j) S hK hP 2 1 rfl rfl (by omega) (by first | decide | omega) d_R_touch_7 ?_
  refine lv_aload_n hx hb d_R_touch_8 rfl (lv_at hl 0 rfl) ?_
  refine rget S hK hP 0 rfl rfl in_R 2 (by decide) kF_R_17 rfl d_R_touch_9 ?_
  refine lv_iload_n hx hb d_R_touch_12 rfl (lv_at hl 2 rfl) ?_
  refine riald (j := j) S hK hP 3 1 rfl rfl (by omega) (by first | decide | omega) d_R_touch_13 ?_
  refine rcallV (rest := []) (v := b2i (f_R_isEnd u aX aY bX bY k (aX j) (aY j))) S [.int (nI (k)), .int (aX j), .int (aY j)] hK hP [0, 1, 2, 3, 4, 5, 6, 7, 8, 9] rfl [0, 1] rfl (c_R_isEnd l D q0 qu qa qb qc qd qe qf qg qh cZ cI u aX aY bX bY kn lns ln ac mn sm k (aX j) (aY j) (by omega)) i_R_isEnd kL_R_46 ⟨Nat.le_of_ble_eq_true rfl, Nat.le_of_ble_eq_true rfl⟩ (by exact ⟨Nat.zero_le _, Nat.zero_le _⟩) (q0 := 0) (ci := 3) rfl rfl rfl hl.1 rfl (Nat.le_of_ble_eq_true rfl) d_R_touch_14 ?_
  refine lv_if_ne (tgt := 40) hx hb d_R_touch_17 (by decide) (fun c1 => ?_) (fun c1 => ?_)
  · have c1a : f_R_isEnd u aX aY bX bY k (aX j) (aY j) = true := b2i_ne0.mp c1
    refine lv_iconst (v := 1) hx hb d_R_touch_40 (by decide) ?_
    refine lv_goto (tgt := 45) hx hb d_R_touch_41 (by decide) ?_
    exact rretZ S hr hlk (v := true) (show f_R_touch u aX aY bX bY k j = true from by unfold f_R_touch; rw [if_pos c1a]).symm d_R_touch_45
  · have c1a : ¬ (f_R_isEnd u aX aY bX bY k (aX j) (aY j) = true) := b2n (b2i_eq0.mp c1)
    refine lv_aload_n hx hb d_R_touch_20 rfl (lv_at hl 0 rfl) ?_
    refine lv_iload_n hx hb d_R_touch_21 rfl (lv_at hl 1 rfl) ?_
    refine lv_aload_n hx hb d_R_touch_22 rfl (lv_at hl 0 rfl) ?_
    refine rget S hK hP 0 rfl rfl in_R 3 (by decide) kF_R_20 rfl d_R_touch_23 ?_
    refine lv_iload_n hx hb d_R_touch_26 rfl (lv_at hl 2 rfl) ?_
    refine riald (j := j) S hK hP 4 1 rfl rfl (by omega) (by first | decide | omega) d_R_touch_27 ?_
    refine lv_aload_n hx hb d_R_touch_28 rfl (lv_at hl 0 rfl) ?_
    refine rget S hK hP 0 rfl rfl in_R 4 (by decide) kF_R_23 rfl d_R_touch_29 ?_
    refine lv_iload_n hx hb d_R_touch_32 rfl (lv_at hl 2 rfl) ?_
    refine riald (j := j) S hK hP 5 1 rfl rfl (by omega) (by first | decide | omega) d_R_touch_33 ?_
    refine rcallV (rest := []) (v := b2i (f_R_isEnd u aX aY bX bY k (bX j) (bY j))) S [.int (nI (k)), .int (bX j), .int (bY j)] hK hP [0, 1, 2, 3, 4, 5, 6, 7, 8, 9] rfl [0, 1] rfl (c_R_isEnd l D q0 qu qa qb qc qd qe qf qg qh cZ cI u aX aY bX bY kn lns ln ac mn sm k (bX j) (bY j) (by omega)) i_R_isEnd kL_R_46 ⟨Nat.le_of_ble_eq_true rfl, Nat.le_of_ble_eq_true rfl⟩ (by exact ⟨Nat.zero_le _, Nat.zero_le _⟩) (q0 := 0) (ci := 3) rfl rfl rfl hl.1 rfl (Nat.le_of_ble_eq_true rfl) d_R_touch_34 ?_
    refine lv_if_eq (tgt := 44) hx hb d_R_touch_37 (by decide) (fun c2 => ?_) (fun c2 => ?_)
    · have c2a : ¬ (f_R_isEnd u aX aY bX bY k (bX j) (bY j) = true) := b2n (b2i_eq0.mp c2)
      refine lv_iconst (v := 0) hx hb d_R_touch_44 (by decide) ?_
      exact rretZ S hr hlk (v := false) (show f_R_touch u aX aY bX bY k j = false from by unfold f_R_touch; rw [if_neg c1a, if_neg c2a]).symm d_R_touch_45
    · have c2a : f_R_isEnd u aX aY bX bY k (bX j) (bY j) = true := b2i_ne0.mp c2
      refine lv_iconst (v := 1) hx hb d_R_touch_40 (by decide) ?_
      refine lv_goto (tgt := 45) hx hb d_R_touch_41 (by decide) ?_
      exact rretZ S hr hlk (v := true) (show f_R_touch u aX aY bX bY k j = true from by unfold f_R_touch; rw [if_neg c1a, if_pos c2a]).symm d_R_touch_45
def fx_R_partOf_3 (u : Nat → Bool) (aX : Nat → Int32) (aY : Nat → Int32) (bX : Nat → Int32) (bY : Nat → Int32) (i2 : Nat) (i3 : Nat) (s3 : Int32) : (Int32) := s3
def fb_R_partOf_3 (u : Nat → Bool) (aX : Nat → Int32) (aY : Nat → Int32) (bX : Nat → Int32) (bY : Nat → Int32) (i2 : Nat) (rec : (Nat) → (Int32) → (Int32)) (i3 : Nat) (s3 : Int32) : (Int32) := if u i2 = true then (if ((s3 >>> (nI (i3) &&& 31)) &&& 1) = 1 then (if f_R_touch u aX aY bX bY i3 i2 = true then (rec (i3 + 1) (s3 ||| (1 <<< (nI (i2) &&& 31)))) else (rec (i3 + 1) s3)) else (rec (i3 + 1) s3)) else (rec (i3 + 1) s3)
def fl_R_partOf_3 (u : Nat → Bool) (aX : Nat → Int32) (aY : Nat → Int32) (bX : Nat → Int32) (bY : Nat → Int32) (i2 : Nat) : Nat → (Nat) → (Int32) → (Int32)
  | 0, i3, s3 => fx_R_partOf_3 u aX aY bX bY i2 i3 s3
  | n3 + 1, i3, s3 => fb_R_partOf_3 u aX aY bX bY i2 (fl_R_partOf_3 u aX aY bX bY i2 n3) i3 s3
def fx_R_partOf_2 (u : Nat → Bool) (aX : Nat → Int32) (aY : Nat → Int32) (bX : Nat → Int32) (bY : Nat → Int32) (i2 : Nat) (s2 : Int32) : (Int32) := s2
def fb_R_partOf_2 (u : Nat → Bool) (aX : Nat → Int32) (aY : Nat → Int32) (bX : Nat → Int32) (bY : Nat → Int32) (rec : (Nat) → (Int32) → (Int32)) (i2 : Nat) (s2 : Int32) : (Int32) := rec (i2 + 1) (fl_R_partOf_3 u aX aY bX bY i2 20 0 s2)
def fl_R_partOf_2 (u : Nat → Bool) (aX : Nat → Int32) (aY : Nat → Int32) (bX : Nat → Int32) (bY : Nat → Int32) : Nat → (Nat) → (Int32) → (Int32)
  | 0, i2, s2 => fx_R_partOf_2 u aX aY bX bY i2 s2
  | n2 + 1, i2, s2 => fb_R_partOf_2 u aX aY bX bY (fl_R_partOf_2 u aX aY bX bY n2) i2 s2
def fx_R_partOf_1 (u : Nat → Bool) (aX : Nat → Int32) (aY : Nat → Int32) (bX : Nat → Int32) (bY : Nat → Int32) (s1 : Int32) (b1 : Int32) : (Int32) × (Int32) := (s1, b1)
def fb_R_partOf_1 (u : Nat → Bool) (aX : Nat → Int32) (aY : Nat → Int32) (bX : Nat → Int32) (bY : Nat → Int32) (rec : (Int32) → (Int32) → (Int32) × (Int32)) (s1 : Int32) (b1 : Int32) : (Int32) × (Int32) := if s1 = b1 then (s1, b1) else (rec (fl_R_partOf_2 u aX aY bX bY 20 0 s1) s1)
def fl_R_partOf_1 (u : Nat → Bool) (aX : Nat → Int32) (aY : Nat → Int32) (bX : Nat → Int32) (bY : Nat → Int32) : Nat → (Int32) → (Int32) → (Int32) × (Int32)
  | 0, s1, b1 => fx_R_partOf_1 u aX aY bX bY s1 b1
  | n1 + 1, s1, b1 => fb_R_partOf_1 u aX aY bX bY (fl_R_partOf_1 u aX aY bX bY n1) s1 b1
def f_R_partOf (u : Nat → Bool) (aX : Nat → Int32) (aY : Nat → Int32) (bX : Nat → Int32) (bY : Nat → Int32) (k : Nat) : Int32 := ((fl_R_partOf_1 u aX aY bX bY PF (1 <<< (nI (k) &&& 31)) 0).1)
theorem i_R_partOf : inV y_R_partOf b_R_partOf 7 (some .int) 1 := ⟨kM_y_R_partOf, kV_y_R_partOf, kI_R, kY_y_R_partOf, by decide +kernel⟩
set_option maxHeartbeats 4000000 in
set_option maxRecDepth 100000 in
theorem c_R_partOf (l : Launch) (D : va_G) (q0 qu qa qb qc qd qe qf qg qh : Nat) (cZ cI : ClassId) (u : Nat → Bool) (aX aY bX bY : Nat → Int32) (kn : Bool) (lns : Nat) (ln : Nat → Int32) (ac mn sm : Nat → Nat) (k : Nat) (hk : k < 20) : PM l y_R_partOf b_R_partOf 7 (some .int) 2 45 D (refW q0 qu qa qb qc qd qe qf qg qh cZ cI u aX aY bX bY kn lns ln ac mn sm) [(cZ, .boolean), (cI, .int)] [.ref q0, .int (nI (k))] (f_R_partOf u aX aY bX bY k) := by
  refine pMet rfl (fun p e s m below meth c S hr hlk hP hK ls hl => ?_) (Nat.le_of_ble_eq_true rfl)
  have hx := S.1
  have hb := S.2.1
  have hl : lv_has ls 7 [(0, .ref q0), (1, .int (nI (k)))] := hl
  refine lv_iconst (v := 1) hx hb d_R_partOf_0 (by decide) ?_
  refine lv_iload_n hx hb d_R_partOf_1 rfl (lv_at hl 1 rfl) ?_
  refine lv_ishl hx hb d_R_partOf_2 ?_
  refine lv_istore_n (lv' := [(2, .int ((1 <<< (nI (k) &&& 31)))), (0, .ref q0), (1, .int (nI (k)))]) hx hb d_R_partOf_3 rfl hl (by decide) rfl (fun ls hl => ?_)
  refine lv_iconst (v := 0) hx hb d_R_partOf_4 (by decide) ?_
  refine lv_istore_n (lv' := [(3, .int 0), (2, .int ((1 <<< (nI (k) &&& 31)))), (0, .ref q0), (1, .int (nI (k)))]) hx hb d_R_partOf_5 rfl hl (by decide) rfl (fun ls hl => ?_)
  have key1 : ∀ (n1 : Nat) (s1 : Int32) (b1 : Int32) (hin : s1 = b1 ∨ 2 ^ 20 ≤ s1.toBitVec.toNat + n1) (hlt : s1.toBitVec.toNat < 2 ^ 20) (ls : Array Slot) (hl : lv_has ls 7 [(0, .ref q0), (1, .int (nI (k))), (2, .int s1), (3, .int b1)]) (cont : ∀ (res : (Int32) × (Int32)), res = fl_R_partOf_1 u aX aY bX bY n1 s1 b1 → ∀ ls : Array Slot, lv_has ls 7 [(0, .ref q0), (1, .int (nI (k))), (2, .int res.1), (3, .int res.2)] → W p l e { frames := 2, cells := 0, slots := 0, locals := 45 } s m [.ref q0, .int (nI (k))].toArray below meth c s.heap [] 0 0 (MQ below (pQ ((f_R_partOf u aX aY bX bY k))) [.ref q0, .int (nI (k))].toArray s 0 0 (fun _ => False)) (F0 m 102 ls [])), W p l e { frames := 2, cells := 0, slots := 0, locals := 45 } s m [.ref q0, .int (nI (k))].toArray below meth c s.heap [] 0 0 (MQ below (pQ ((f_R_partOf u aX aY bX bY k))) [.ref q0, .int (nI (k))].toArray s 0 0 (fun _ => False)) (F0 m 6 ls []) := by
    clear hl
    intro n1
    induction n1 with
    | zero =>
      intro s1 b1 hin hlt ls hl cont
      refine lv_iload_n hx hb d_R_partOf_6 rfl (lv_at hl 2 rfl) ?_
      refine lv_iload_n hx hb d_R_partOf_7 rfl (lv_at hl 3 rfl) ?_
      refine lv_icmp_eq (tgt := 102) hx hb d_R_partOf_8 (by decide) (fun c1 => ?_) (fun c1 => ?_)
      · have c1a : s1 = b1 := c1
        exact cont (s1, b1) (show fx_R_partOf_1 u aX aY bX bY s1 b1 = (s1, b1) from rfl).symm ls (lv_sub hl [0, 1, 2, 3] rfl)
      · have c1a : ¬ (s1 = b1) := c1
        exact absurd (hin.resolve_left c1a) (by omega)
    | succ n1 ih1 =>
      intro s1 b1 hin hlt ls hl cont
      refine lv_iload_n hx hb d_R_partOf_6 rfl (lv_at hl 2 rfl) ?_
      refine lv_iload_n hx hb d_R_partOf_7 rfl (lv_at hl 3 rfl) ?_
      refine lv_icmp_eq (tgt := 102) hx hb d_R_partOf_8 (by decide) (fun c2 => ?_) (fun c2 => ?_)
      · have c2a : s1 = b1 := c2
        exact cont (s1, b1) (show fb_R_partOf_1 u aX aY bX bY (fl_R_partOf_1 u aX aY bX bY n1) s1 b1 = (s1, b1) from by unfold fb_R_partOf_1; rw [if_pos c2a]).symm ls (lv_sub hl [0, 1, 2, 3] rfl)
      · have c2a : ¬ (s1 = b1) := c2
        refine lv_iload_n hx hb d_R_partOf_11 rfl (lv_at hl 2 rfl) ?_
        refine lv_istore_n (lv' := [(3, .int s1), (0, .ref q0), (1, .int (nI (k))), (2, .int s1)]) hx hb d_R_partOf_12 rfl hl (by decide) rfl (fun ls hl => ?_)
        refine lv_iconst (v := 0) hx hb d_R_partOf_13 (by decide) ?_
        refine lv_istore (lv' := [(4, .int 0), (3, .int s1), (0, .ref q0), (1, .int (nI (k))), (2, .int s1)]) hx hb d_R_partOf_14 hl (by decide) rfl (fun ls hl => ?_)
        have key2 : ∀ (n2 : Nat) (i2 : Nat) (s2 : Int32) (hk2 : i2 + n2 = 20) (hb2 : s1.toBitVec.toNat ≤ s2.toBitVec.toNat) (hc2 : s2.toBitVec.toNat < 2 ^ 20) (ls : Array Slot) (hl : lv_has ls 7 [(0, .ref q0), (1, .int (nI (k))), (2, .int s2), (3, .int s1), (4, .int (nI (i2)))]) (cont : ∀ (res : (Int32)), res = fl_R_partOf_2 u aX aY bX bY n2 i2 s2 → (s1.toBitVec.toNat ≤ res.toBitVec.toNat) → (res.toBitVec.toNat < 2 ^ 20) → ∀ ls : Array Slot, lv_has ls 7 [(0, .ref q0), (1, .int (nI (k))), (2, .int res), (3, .int s1)] → W p l e { frames := 2, cells := 0, slots := 0, locals := 45 } s m [.ref q0, .int (nI (k))].toArray below meth c s.heap [] 0 0 (MQ below (pQ ((f_R_partOf u aX aY bX bY k))) [.ref q0, .int (nI (k))].toArray s 0 0 (fun _ => False)) (F0 m 99 ls [])), W p l e { frames := 2, cells := 0, slots := 0, locals := 45 } s m [.ref q0, .int (nI (k))].toArray below meth c s.heap [] 0 0 (MQ below (pQ ((f_R_partOf u aX aY bX bY k))) [.ref q0, .int (nI (k))].toArray s 0 0 (fun _ => False)) (F0 m 16 ls []) := by
          clear hl
          intro n2
          induction n2 with
          | zero =>
            intro i2 s2 hk2 hb2 hc2 ls hl cont
            refine lv_iload hx hb d_R_partOf_16 (lv_at hl 4 rfl) ?_
            refine lv_bipush (v := 20) hx hb d_R_partOf_18 (by decide) ?_
            refine lv_icmp_ge (tgt := 99) hx hb d_R_partOf_20 (by decide) (fun c3 => ?_) (fun c3 => ?_)
            · have c3a : 20 ≤ i2 := (nI_leI (a := 20) (b := i2) (by decide) (by omega)).mp c3
              exact cont s2 (show fx_R_partOf_2 u aX aY bX bY i2 s2 = s2 from rfl).symm hb2 hc2 ls (lv_sub hl [0, 1, 2, 3] rfl)
            · have c3a : ¬ (20 ≤ i2) := fun h => c3 ((nI_leI (a := 20) (b := i2) (by decide) (by omega)).mpr h)
              omega
          | succ n2 ih2 =>
            intro i2 s2 hk2 hb2 hc2 ls hl cont
            refine lv_iload hx hb d_R_partOf_16 (lv_at hl 4 rfl) ?_
            refine lv_bipush (v := 20) hx hb d_R_partOf_18 (by decide) ?_
            refine lv_icmp_ge (tgt := 99) hx hb d_R_partOf_20 (by decide) (fun c4 => ?_) (fun c4 => ?_)
            · have c4a : 20 ≤ i2 := (nI_leI (a := 20) (b := i2) (by decide) (by omega)).mp c4
              omega
            · have c4a : ¬ (20 ≤ i2) := fun h => c4 ((nI_leI (a := 20) (b := i2) (by decide) (by omega)).mpr h)
              refine lv_iconst (v := 0) hx hb d_R_partOf_23 (by decide) ?_
              refine lv_istore (lv' := [(5, .int 0), (0, .ref q0), (1, .int (nI (k))), (2, .int s2), (3, .int s1), (4, .int (nI (i2)))]) hx hb d_R_partOf_24 hl (by decide) rfl (fun ls hl => ?_)
              have key3 : ∀ (n3 : Nat) (i3 : Nat) (s3 : Int32) (hk3 : i3 + n3 = 20) (hb3 : s1.toBitVec.toNat ≤ s3.toBitVec.toNat) (hc3 : s3.toBitVec.toNat < 2 ^ 20) (ls : Array Slot) (hl : lv_has ls 7 [(0, .ref q0), (1, .int (nI (k))), (2, .int s3), (3, .int s1), (4, .int (nI (i2))), (5, .int (nI (i3)))]) (cont : ∀ (res : (Int32)), res = fl_R_partOf_3 u aX aY bX bY i2 n3 i3 s3 → (s1.toBitVec.toNat ≤ res.toBitVec.toNat) → (res.toBitVec.toNat < 2 ^ 20) → ∀ ls : Array Slot, lv_has ls 7 [(0, .ref q0), (1, .int (nI (k))), (2, .int res), (3, .int s1), (4, .int (nI (i2)))] → W p l e { frames := 2, cells := 0, slots := 0, locals := 45 } s m [.ref q0, .int (nI (k))].toArray below meth c s.heap [] 0 0 (MQ below (pQ ((f_R_partOf u aX aY bX bY k))) [.ref q0, .int (nI (k))].toArray s 0 0 (fun _ => False)) (F0 m 93 ls [])), W p l e { frames := 2, cells := 0, slots := 0, locals := 45 } s m [.ref q0, .int (nI (k))].toArray below meth c s.heap [] 0 0 (MQ below (pQ ((f_R_partOf u aX aY bX bY k))) [.ref q0, .int (nI (k))].toArray s 0 0 (fun _ => False)) (F0 m 26 ls []) := by
                clear hl
                intro n3
                induction n3 with
                | zero =>
                  intro i3 s3 hk3 hb3 hc3 ls hl cont
                  refine lv_iload hx hb d_R_partOf_26 (lv_at hl 5 rfl) ?_
                  refine lv_bipush (v := 20) hx hb d_R_partOf_28 (by decide) ?_
                  refine lv_icmp_ge (tgt := 93) hx hb d_R_partOf_30 (by decide) (fun c5 => ?_) (fun c5 => ?_)
                  · have c5a : 20 ≤ i3 := (nI_leI (a := 20) (b := i3) (by decide) (by omega)).mp c5
                    exact cont s3 (show fx_R_partOf_3 u aX aY bX bY i2 i3 s3 = s3 from rfl).symm hb3 hc3 ls (lv_sub hl [0, 1, 2, 3, 4] rfl)
                  · have c5a : ¬ (20 ≤ i3) := fun h => c5 ((nI_leI (a := 20) (b := i3) (by decide) (by omega)).mpr h)
                    omega
                | succ n3 ih3 =>
                  intro i3 s3 hk3 hb3 hc3 ls hl cont
                  refine lv_iload hx hb d_R_partOf_26 (lv_at hl 5 rfl) ?_
                  refine lv_bipush (v := 20) hx hb d_R_partOf_28 (by decide) ?_
                  refine lv_icmp_ge (tgt := 93) hx hb d_R_partOf_30 (by decide) (fun c6 => ?_) (fun c6 => ?_)
                  · have c6a : 20 ≤ i3 := (nI_leI (a := 20) (b := i3) (by decide) (by omega)).mp c6
                    omega
                  · have c6a : ¬ (20 ≤ i3) := fun h => c6 ((nI_leI (a := 20) (b := i3) (by decide) (by omega)).mpr h)
                    refine lv_aload_n hx hb d_R_partOf_33 rfl (lv_at hl 0 rfl) ?_
                    refine rget S hK hP 0 rfl rfl in_R 0 (by decide) kF_R_7 rfl d_R_partOf_34 ?_
                    refine lv_iload hx hb d_R_partOf_37 (lv_at hl 4 rfl) ?_
                    refine rzald (j := i2) S hK hP 1 0 rfl rfl (by omega) (by first | decide | omega) d_R_partOf_39 ?_
                    refine lv_if_eq (tgt := 68) hx hb d_R_partOf_40 (by decide) (fun c7 => ?_) (fun c7 => ?_)
                    · have c7a : ¬ (u i2 = true) := b2n (b2i_eq0.mp c7)
                      refine lv_iconst (v := 0) hx hb d_R_partOf_68 (by decide) ?_
                      refine lv_istore (lv' := [(6, .int 0), (0, .ref q0), (1, .int (nI (k))), (2, .int s3), (3, .int s1), (4, .int (nI (i2))), (5, .int (nI (i3)))]) hx hb d_R_partOf_69 hl (by decide) rfl (fun ls hl => ?_)
                      refine lv_iload hx hb d_R_partOf_71 (lv_at hl 0 rfl) ?_
                      refine lv_if_eq (tgt := 85) hx hb d_R_partOf_73 (by decide) (fun _ => ?_) (fun h => absurd (by decide) h)
                      refine lv_iload_n hx hb d_R_partOf_85 rfl (lv_at hl 3 rfl) ?_
                      refine lv_istore_n (lv' := [(2, .int s3), (6, .int 0), (0, .ref q0), (1, .int (nI (k))), (3, .int s1), (4, .int (nI (i2))), (5, .int (nI (i3)))]) hx hb d_R_partOf_86 rfl hl (by decide) rfl (fun ls hl => ?_)
                      refine lv_iinc (v := nI (i3 + 1)) (lv' := [(5, .int (nI (i3 + 1))), (2, .int s3), (6, .int 0), (0, .ref q0), (1, .int (nI (k))), (3, .int s1), (4, .int (nI (i2)))]) hx hb d_R_partOf_87 hl (k := 6) rfl (nI_1 (i3)) (by decide) rfl (fun ls hl => ?_)
                      refine lv_goto (tgt := 26) hx hb d_R_partOf_90 (by decide) ?_
                      exact ih3 (i3 + 1) s3 (by omega) (by first | exact hb3 | exact or_ge hb3 _) (by first | exact hc3 | exact or_lt hc3 _ (by omega)) ls (lv_sub hl [3, 4, 1, 5, 6, 0] rfl) (fun res hres => cont res (hres.trans (show fb_R_partOf_3 u aX aY bX bY i2 (fl_R_partOf_3 u aX aY bX bY i2 n3) i3 s3 = (fl_R_partOf_3 u aX aY bX bY i2 n3 (i3 + 1) s3) from by unfold fb_R_partOf_3; rw [if_neg c7a]).symm))
                    · have c7a : u i2 = true := b2i_ne0.mp c7
                      refine lv_iload_n hx hb d_R_partOf_43 rfl (lv_at hl 2 rfl) ?_
                      refine lv_iload hx hb d_R_partOf_44 (lv_at hl 5 rfl) ?_
                      refine lv_ishr hx hb d_R_partOf_46 ?_
                      refine lv_iconst (v := 1) hx hb d_R_partOf_47 (by decide) ?_
                      refine lv_iand hx hb d_R_partOf_48 ?_
                      refine lv_iconst (v := 1) hx hb d_R_partOf_49 (by decide) ?_
                      refine lv_icmp_ne (tgt := 68) hx hb d_R_partOf_50 (by decide) (fun c9 => ?_) (fun c9 => ?_)
                      · have c9a : ¬ (((s3 >>> (nI (i3) &&& 31)) &&& 1) = 1) := c9
                        refine lv_iconst (v := 0) hx hb d_R_partOf_68 (by decide) ?_
                        refine lv_istore (lv' := [(6, .int 0), (0, .ref q0), (1, .int (nI (k))), (2, .int s3), (3, .int s1), (4, .int (nI (i2))), (5, .int (nI (i3)))]) hx hb d_R_partOf_69 hl (by decide) rfl (fun ls hl => ?_)
                        refine lv_iload hx hb d_R_partOf_71 (lv_at hl 0 rfl) ?_
                        refine lv_if_eq (tgt := 85) hx hb d_R_partOf_73 (by decide) (fun _ => ?_) (fun h => absurd (by decide) h)
                        refine lv_iload_n hx hb d_R_partOf_85 rfl (lv_at hl 3 rfl) ?_
                        refine lv_istore_n (lv' := [(2, .int s3), (6, .int 0), (0, .ref q0), (1, .int (nI (k))), (3, .int s1), (4, .int (nI (i2))), (5, .int (nI (i3)))]) hx hb d_R_partOf_86 rfl hl (by decide) rfl (fun ls hl => ?_)
                        refine lv_iinc (v := nI (i3 + 1)) (lv' := [(5, .int (nI (i3 + 1))), (2, .int s3), (6, .int 0), (0, .ref q0), (1, .int (nI (k))), (3, .int s1), (4, .int (nI (i2)))]) hx hb d_R_partOf_87 hl (k := 6) rfl (nI_1 (i3)) (by decide) rfl (fun ls hl => ?_)
                        refine lv_goto (tgt := 26) hx hb d_R_partOf_90 (by decide) ?_
                        exact ih3 (i3 + 1) s3 (by omega) (by first | exact hb3 | exact or_ge hb3 _) (by first | exact hc3 | exact or_lt hc3 _ (by omega)) ls (lv_sub hl [3, 4, 1, 5, 6, 0] rfl) (fun res hres => cont res (hres.trans (show fb_R_partOf_3 u aX aY bX bY i2 (fl_R_partOf_3 u aX aY bX bY i2 n3) i3 s3 = (fl_R_partOf_3 u aX aY bX bY i2 n3 (i3 + 1) s3) from by unfold fb_R_partOf_3; rw [if_pos c7a, if_neg c9a]).symm))
                      · have c9a : ((s3 >>> (nI (i3) &&& 31)) &&& 1) = 1 := c9
                        refine lv_aload_n hx hb d_R_partOf_53 rfl (lv_at hl 0 rfl) ?_
                        refine lv_iload hx hb d_R_partOf_54 (lv_at hl 5 rfl) ?_
                        refine lv_iload hx hb d_R_partOf_56 (lv_at hl 4 rfl) ?_
                        refine rcallV (rest := []) (v := b2i (f_R_touch u aX aY bX bY i3 i2)) S [.int (nI (i3)), .int (nI (i2))] hK hP [0, 1, 2, 3, 4, 5, 6, 7, 8, 9] rfl [0, 1] rfl (c_R_touch l D q0 qu qa qb qc qd qe qf qg qh cZ cI u aX aY bX bY kn lns ln ac mn sm i3 i2 (by omega) (by omega)) i_R_touch kL_R_72 ⟨Nat.le_of_ble_eq_true rfl, Nat.le_of_ble_eq_true rfl⟩ (by exact ⟨Nat.zero_le _, Nat.zero_le _⟩) (q0 := 0) (ci := 3) rfl rfl rfl hl.1 rfl (Nat.le_of_ble_eq_true rfl) d_R_partOf_58 ?_
                        refine lv_if_eq (tgt := 68) hx hb d_R_partOf_61 (by decide) (fun c11 => ?_) (fun c11 => ?_)
                        · have c11a : ¬ (f_R_touch u aX aY bX bY i3 i2 = true) := b2n (b2i_eq0.mp c11)
                          refine lv_iconst (v := 0) hx hb d_R_partOf_68 (by decide) ?_
                          refine lv_istore (lv' := [(6, .int 0), (0, .ref q0), (1, .int (nI (k))), (2, .int s3), (3, .int s1), (4, .int (nI (i2))), (5, .int (nI (i3)))]) hx hb d_R_partOf_69 hl (by decide) rfl (fun ls hl => ?_)
                          refine lv_iload hx hb d_R_partOf_71 (lv_at hl 0 rfl) ?_
                          refine lv_if_eq (tgt := 85) hx hb d_R_partOf_73 (by decide) (fun _ => ?_) (fun h => absurd (by decide) h)
                          refine lv_iload_n hx hb d_R_partOf_85 rfl (lv_at hl 3 rfl) ?_
                          refine lv_istore_n (lv' := [(2, .int s3), (6, .int 0), (0, .ref q0), (1, .int (nI (k))), (3, .int s1), (4, .int (nI (i2))), (5, .int (nI (i3)))]) hx hb d_R_partOf_86 rfl hl (by decide) rfl (fun ls hl => ?_)
                          refine lv_iinc (v := nI (i3 + 1)) (lv' := [(5, .int (nI (i3 + 1))), (2, .int s3), (6, .int 0), (0, .ref q0), (1, .int (nI (k))), (3, .int s1), (4, .int (nI (i2)))]) hx hb d_R_partOf_87 hl (k := 6) rfl (nI_1 (i3)) (by decide) rfl (fun ls hl => ?_)
                          refine lv_goto (tgt := 26) hx hb d_R_partOf_90 (by decide) ?_
                          exact ih3 (i3 + 1) s3 (by omega) (by first | exact hb3 | exact or_ge hb3 _) (by first | exact hc3 | exact or_lt hc3 _ (by omega)) ls (lv_sub hl [3, 4, 1, 5, 6, 0] rfl) (fun res hres => cont res (hres.trans (show fb_R_partOf_3 u aX aY bX bY i2 (fl_R_partOf_3 u aX aY bX bY i2 n3) i3 s3 = (fl_R_partOf_3 u aX aY bX bY i2 n3 (i3 + 1) s3) from by unfold fb_R_partOf_3; rw [if_pos c7a, if_pos c9a, if_neg c11a]).symm))
                        · have c11a : f_R_touch u aX aY bX bY i3 i2 = true := b2i_ne0.mp c11
                          refine lv_iconst (v := 1) hx hb d_R_partOf_64 (by decide) ?_
                          refine lv_goto (tgt := 69) hx hb d_R_partOf_65 (by decide) ?_
                          refine lv_istore (lv' := [(6, .int 1), (0, .ref q0), (1, .int (nI (k))), (2, .int s3), (3, .int s1), (4, .int (nI (i2))), (5, .int (nI (i3)))]) hx hb d_R_partOf_69 hl (by decide) rfl (fun ls hl => ?_)
                          refine lv_iload hx hb d_R_partOf_71 (lv_at hl 0 rfl) ?_
                          refine lv_if_eq (tgt := 85) hx hb d_R_partOf_73 (by decide) (fun h => absurd h (by decide)) (fun _ => ?_)
                          refine lv_iload_n hx hb d_R_partOf_76 rfl (lv_at hl 3 rfl) ?_
                          refine lv_iconst (v := 1) hx hb d_R_partOf_77 (by decide) ?_
                          refine lv_iload hx hb d_R_partOf_78 (lv_at hl 5 rfl) ?_
                          refine lv_ishl hx hb d_R_partOf_80 ?_
                          refine lv_ior hx hb d_R_partOf_81 ?_
                          refine lv_goto (tgt := 86) hx hb d_R_partOf_82 (by decide) ?_
                          refine lv_istore_n (lv' := [(2, .int ((s3 ||| (1 <<< (nI (i2) &&& 31))))), (6, .int 1), (0, .ref q0), (1, .int (nI (k))), (3, .int s1), (4, .int (nI (i2))), (5, .int (nI (i3)))]) hx hb d_R_partOf_86 rfl hl (by decide) rfl (fun ls hl => ?_)
                          refine lv_iinc (v := nI (i3 + 1)) (lv' := [(5, .int (nI (i3 + 1))), (2, .int ((s3 ||| (1 <<< (nI (i2) &&& 31))))), (6, .int 1), (0, .ref q0), (1, .int (nI (k))), (3, .int s1), (4, .int (nI (i2)))]) hx hb d_R_partOf_87 hl (k := 6) rfl (nI_1 (i3)) (by decide) rfl (fun ls hl => ?_)
                          refine lv_goto (tgt := 26) hx hb d_R_partOf_90 (by decide) ?_
                          exact ih3 (i3 + 1) (s3 ||| (1 <<< (nI (i2) &&& 31))) (by omega) (by first | exact hb3 | exact or_ge hb3 _) (by first | exact hc3 | exact or_lt hc3 _ (by omega)) ls (lv_sub hl [3, 4, 1, 5, 6, 0] rfl) (fun res hres => cont res (hres.trans (show fb_R_partOf_3 u aX aY bX bY i2 (fl_R_partOf_3 u aX aY bX bY i2 n3) i3 s3 = (fl_R_partOf_3 u aX aY bX bY i2 n3 (i3 + 1) (s3 ||| (1 <<< (nI (i2) &&& 31)))) from by unfold fb_R_partOf_3; rw [if_pos c7a, if_pos c9a, if_pos c11a]).symm))
              refine key3 20 0 s2 (by omega) hb2 hc2 ls (lv_sub hl [1, 2, 3, 4, 5, 0] rfl) (fun res hres hp3a hp3b ls hl => ?_)
              subst hres
              have hl : lv_has ls 7 [(0, .ref q0), (1, .int (nI (k))), (2, .int ((fl_R_partOf_3 u aX aY bX bY i2 20 0 s2))), (3, .int s1), (4, .int (nI (i2)))] := hl
              refine lv_iinc (v := nI (i2 + 1)) (lv' := [(4, .int (nI (i2 + 1))), (0, .ref q0), (1, .int (nI (k))), (2, .int ((fl_R_partOf_3 u aX aY bX bY i2 20 0 s2))), (3, .int s1)]) hx hb d_R_partOf_93 hl (k := 4) rfl (nI_1 (i2)) (by decide) rfl (fun ls hl => ?_)
              refine lv_goto (tgt := 16) hx hb d_R_partOf_96 (by decide) ?_
              exact ih2 (i2 + 1) (fl_R_partOf_3 u aX aY bX bY i2 20 0 s2) (by omega) hp3a hp3b ls (lv_sub hl [1, 2, 3, 4, 0] rfl) (fun res hres => cont res (hres.trans (show fb_R_partOf_2 u aX aY bX bY (fl_R_partOf_2 u aX aY bX bY n2) i2 s2 = (fl_R_partOf_2 u aX aY bX bY n2 (i2 + 1) (fl_R_partOf_3 u aX aY bX bY i2 20 0 s2)) from rfl).symm))
        refine key2 20 0 s1 (by omega) (Nat.le_refl _) hlt ls (lv_sub hl [2, 3, 4, 1, 0] rfl) (fun res hres hp2a hp2b ls hl => ?_)
        subst hres
        have hl : lv_has ls 7 [(0, .ref q0), (1, .int (nI (k))), (2, .int ((fl_R_partOf_2 u aX aY bX bY 20 0 s1))), (3, .int s1)] := hl
        refine lv_goto (tgt := 6) hx hb d_R_partOf_99 (by decide) ?_
        exact ih1 (fl_R_partOf_2 u aX aY bX bY 20 0 s1) s1 (grow hp2a (hin.resolve_left c2a)) hp2b ls (lv_sub hl [0, 1, 2, 3] rfl) (fun res hres => cont res (hres.trans (show fb_R_partOf_1 u aX aY bX bY (fl_R_partOf_1 u aX aY bX bY n1) s1 b1 = (fl_R_partOf_1 u aX aY bX bY n1 (fl_R_partOf_2 u aX aY bX bY 20 0 s1) s1) from by unfold fb_R_partOf_1; rw [if_neg c2a]).symm))
  refine key1 PF (1 <<< (nI (k) &&& 31)) 0 (Or.inr (by unfold PF; omega)) (bit_lt k hk) ls (lv_sub hl [2, 3, 1, 0] rfl) (fun res hres ls hl => ?_)
  subst hres
  have hl : lv_has ls 7 [(0, .ref q0), (1, .int (nI (k))), (2, .int (((fl_R_partOf_1 u aX aY bX bY PF (1 <<< (nI (k) &&& 31)) 0).1))), (3, .int (((fl_R_partOf_1 u aX aY bX bY PF (1 <<< (nI (k) &&& 31)) 0).2)))] := hl
  refine lv_iload_n hx hb d_R_partOf_102 rfl (lv_at hl 2 rfl) ?_
  exact rret S hr hlk (v := ((fl_R_partOf_1 u aX aY bX bY PF (1 <<< (nI (k) &&& 31)) 0).1)) (show f_R_partOf u aX aY bX bY k = ((fl_R_partOf_1 u aX aY bX bY PF (1 <<< (nI (k) &&& 31)) 0).1) from rfl).symm d_R_partOf_103
def fx_R_parts_1 (u : Nat → Bool) (aX : Nat → Int32) (aY : Nat → Int32) (bX : Nat → Int32) (bY : Nat → Int32) (k : Nat) (cnt : Nat) : Nat := cnt
def fb_R_parts_1 (u : Nat → Bool) (aX : Nat → Int32) (aY : Nat → Int32) (bX : Nat → Int32) (bY : Nat → Int32) (rec : (Nat) → (Nat) → Nat) (k : Nat) (cnt : Nat) : Nat := if u k = true then (if ((f_R_partOf u aX aY bX bY k) &&& ((1 <<< (nI (k) &&& 31)) - 1)) = 0 then (rec (k + 1) (cnt + 1)) else (rec (k + 1) cnt)) else (rec (k + 1) cnt)
def fl_R_parts_1 (u : Nat → Bool) (aX : Nat → Int32) (aY : Nat → Int32) (bX : Nat → Int32) (bY : Nat → Int32) : Nat → (Nat) → (Nat) → Nat
  | 0, k, cnt => fx_R_parts_1 u aX aY bX bY k cnt
  | n1 + 1, k, cnt => fb_R_parts_1 u aX aY bX bY (fl_R_parts_1 u aX aY bX bY n1) k cnt
def f_R_parts (u : Nat → Bool) (aX : Nat → Int32) (aY : Nat → Int32) (bX : Nat → Int32) (bY : Nat → Int32) : Nat := fl_R_parts_1 u aX aY bX bY 20 0 0
theorem i_R_parts : inV y_R_parts b_R_parts 3 (some .int) 0 := ⟨kM_y_R_parts, kV_y_R_parts, kI_R, kY_y_R_parts, by decide +kernel⟩
set_option maxHeartbeats 4000000 in
set_option maxRecDepth 100000 in
theorem c_R_parts (l : Launch) (D : va_G) (q0 qu qa qb qc qd qe qf qg qh : Nat) (cZ cI : ClassId) (u : Nat → Bool) (aX aY bX bY : Nat → Int32) (kn : Bool) (lns : Nat) (ln : Nat → Int32) (ac mn sm : Nat → Nat) : PM l y_R_parts b_R_parts 3 (some .int) 3 71 D (refW q0 qu qa qb qc qd qe qf qg qh cZ cI u aX aY bX bY kn lns ln ac mn sm) [(cZ, .boolean), (cI, .int)] [.ref q0] (nI (f_R_parts u aX aY bX bY)) := by
  refine pMet rfl (fun p e s m below meth c S hr hlk hP hK ls hl => ?_) (Nat.le_of_ble_eq_true rfl)
  have hx := S.1
  have hb := S.2.1
  have hl : lv_has ls 3 [(0, .ref q0)] := hl
  refine lv_iconst (v := 0) hx hb d_R_parts_0 (by decide) ?_
  refine lv_istore_n (lv' := [(1, .int 0), (0, .ref q0)]) hx hb d_R_parts_1 rfl hl (by decide) rfl (fun ls hl => ?_)
  refine lv_iconst (v := 0) hx hb d_R_parts_2 (by decide) ?_
  refine lv_istore_n (lv' := [(2, .int 0), (1, .int 0), (0, .ref q0)]) hx hb d_R_parts_3 rfl hl (by decide) rfl (fun ls hl => ?_)
  have key1 : ∀ (n1 : Nat) (k : Nat) (cnt : Nat) (hk1 : k + n1 = 20) (ls : Array Slot) (hl : lv_has ls 3 [(0, .ref q0), (1, .int (nI (cnt))), (2, .int (nI (k)))]) (hf : f_R_parts u aX aY bX bY = fl_R_parts_1 u aX aY bX bY n1 k cnt), W p l e { frames := 3, cells := 0, slots := 0, locals := 71 } s m [.ref q0].toArray below meth c s.heap [] 0 0 (MQ below (pQ (nI (f_R_parts u aX aY bX bY))) [.ref q0].toArray s 0 0 (fun _ => False)) (F0 m 4 ls []) := by
    clear hl
    intro n1
    induction n1 with
    | zero =>
      intro k cnt hk1 ls hl hf
      refine lv_iload_n hx hb d_R_parts_4 rfl (lv_at hl 2 rfl) ?_
      refine lv_bipush (v := 20) hx hb d_R_parts_5 (by decide) ?_
      refine lv_icmp_ge (tgt := 47) hx hb d_R_parts_7 (by decide) (fun c1 => ?_) (fun c1 => ?_)
      · have c1a : 20 ≤ k := (nI_leI (a := 20) (b := k) (by decide) (by omega)).mp c1
        refine lv_iload_n hx hb d_R_parts_47 rfl (lv_at hl 1 rfl) ?_
        exact rret S hr hlk (v := nI (cnt)) (congrArg nI (hf.trans (show fx_R_parts_1 u aX aY bX bY k cnt = cnt from rfl)).symm) d_R_parts_48
      · have c1a : ¬ (20 ≤ k) := fun h => c1 ((nI_leI (a := 20) (b := k) (by decide) (by omega)).mpr h)
        omega
    | succ n1 ih1 =>
      intro k cnt hk1 ls hl hf
      refine lv_iload_n hx hb d_R_parts_4 rfl (lv_at hl 2 rfl) ?_
      refine lv_bipush (v := 20) hx hb d_R_parts_5 (by decide) ?_
      refine lv_icmp_ge (tgt := 47) hx hb d_R_parts_7 (by decide) (fun c2 => ?_) (fun c2 => ?_)
      · have c2a : 20 ≤ k := (nI_leI (a := 20) (b := k) (by decide) (by omega)).mp c2
        omega
      · have c2a : ¬ (20 ≤ k) := fun h => c2 ((nI_leI (a := 20) (b := k) (by decide) (by omega)).mpr h)
        refine lv_aload_n hx hb d_R_parts_10 rfl (lv_at hl 0 rfl) ?_
        refine rget S hK hP 0 rfl rfl in_R 0 (by decide) kF_R_7 rfl d_R_parts_11 ?_
        refine lv_iload_n hx hb d_R_parts_14 rfl (lv_at hl 2 rfl) ?_
        refine rzald (j := k) S hK hP 1 0 rfl rfl (by omega) (by first | decide | omega) d_R_parts_15 ?_
        refine lv_if_eq (tgt := 39) hx hb d_R_parts_16 (by decide) (fun c3 => ?_) (fun c3 => ?_)
        · have c3a : ¬ (u k = true) := b2n (b2i_eq0.mp c3)
          refine lv_iload_n hx hb d_R_parts_39 rfl (lv_at hl 1 rfl) ?_
          refine lv_istore_n (lv' := [(1, .int (nI (cnt))), (0, .ref q0), (2, .int (nI (k)))]) hx hb d_R_parts_40 rfl hl (by decide) rfl (fun ls hl => ?_)
          refine lv_iinc (v := nI (k + 1)) (lv' := [(2, .int (nI (k + 1))), (1, .int (nI (cnt))), (0, .ref q0)]) hx hb d_R_parts_41 hl (k := 2) rfl (nI_1 (k)) (by decide) rfl (fun ls hl => ?_)
          refine lv_goto (tgt := 4) hx hb d_R_parts_44 (by decide) ?_
          exact ih1 (k + 1) cnt (by omega) ls (lv_sub hl [2, 1, 0] rfl) (hf.trans (show fb_R_parts_1 u aX aY bX bY (fl_R_parts_1 u aX aY bX bY n1) k cnt = (fl_R_parts_1 u aX aY bX bY n1 (k + 1) cnt) from by unfold fb_R_parts_1; rw [if_neg c3a]))
        · have c3a : u k = true := b2i_ne0.mp c3
          refine lv_aload_n hx hb d_R_parts_19 rfl (lv_at hl 0 rfl) ?_
          refine lv_iload_n hx hb d_R_parts_20 rfl (lv_at hl 2 rfl) ?_
          refine rcallV (rest := []) (v := (f_R_partOf u aX aY bX bY k)) S [.int (nI (k))] hK hP [0, 1, 2, 3, 4, 5, 6, 7, 8, 9] rfl [0, 1] rfl (c_R_partOf l D q0 qu qa qb qc qd qe qf qg qh cZ cI u aX aY bX bY kn lns ln ac mn sm k (by omega)) i_R_partOf kL_R_75 ⟨Nat.le_of_ble_eq_true rfl, Nat.le_of_ble_eq_true rfl⟩ (by exact ⟨Nat.zero_le _, Nat.zero_le _⟩) (q0 := 0) (ci := 3) rfl rfl rfl hl.1 rfl (Nat.le_of_ble_eq_true rfl) d_R_parts_21 ?_
          refine lv_iconst (v := 1) hx hb d_R_parts_24 (by decide) ?_
          refine lv_iload_n hx hb d_R_parts_25 rfl (lv_at hl 2 rfl) ?_
          refine lv_ishl hx hb d_R_parts_26 ?_
          refine lv_iconst (v := 1) hx hb d_R_parts_27 (by decide) ?_
          refine lv_isub hx hb d_R_parts_28 ?_
          refine lv_iand hx hb d_R_parts_29 ?_
          refine lv_if_ne (tgt := 39) hx hb d_R_parts_30 (by decide) (fun c4 => ?_) (fun c4 => ?_)
          · have c4a : ¬ (((f_R_partOf u aX aY bX bY k) &&& ((1 <<< (nI (k) &&& 31)) - 1)) = 0) := c4
            refine lv_iload_n hx hb d_R_parts_39 rfl (lv_at hl 1 rfl) ?_
            refine lv_istore_n (lv' := [(1, .int (nI (cnt))), (0, .ref q0), (2, .int (nI (k)))]) hx hb d_R_parts_40 rfl hl (by decide) rfl (fun ls hl => ?_)
            refine lv_iinc (v := nI (k + 1)) (lv' := [(2, .int (nI (k + 1))), (1, .int (nI (cnt))), (0, .ref q0)]) hx hb d_R_parts_41 hl (k := 2) rfl (nI_1 (k)) (by decide) rfl (fun ls hl => ?_)
            refine lv_goto (tgt := 4) hx hb d_R_parts_44 (by decide) ?_
            exact ih1 (k + 1) cnt (by omega) ls (lv_sub hl [2, 1, 0] rfl) (hf.trans (show fb_R_parts_1 u aX aY bX bY (fl_R_parts_1 u aX aY bX bY n1) k cnt = (fl_R_parts_1 u aX aY bX bY n1 (k + 1) cnt) from by unfold fb_R_parts_1; rw [if_pos c3a, if_neg c4a]))
          · have c4a : ((f_R_partOf u aX aY bX bY k) &&& ((1 <<< (nI (k) &&& 31)) - 1)) = 0 := c4
            refine lv_iload_n hx hb d_R_parts_33 rfl (lv_at hl 1 rfl) ?_
            refine lv_iconst (v := 1) hx hb d_R_parts_34 (by decide) ?_
            refine lv_iadd hx hb d_R_parts_35 ?_
            refine rtop (y := nI (cnt + 1)) (nI_add (cnt) (1)) ?_
            refine lv_goto (tgt := 40) hx hb d_R_parts_36 (by decide) ?_
            refine lv_istore_n (lv' := [(1, .int (nI (cnt + 1))), (0, .ref q0), (2, .int (nI (k)))]) hx hb d_R_parts_40 rfl hl (by decide) rfl (fun ls hl => ?_)
            refine lv_iinc (v := nI (k + 1)) (lv' := [(2, .int (nI (k + 1))), (1, .int (nI (cnt + 1))), (0, .ref q0)]) hx hb d_R_parts_41 hl (k := 2) rfl (nI_1 (k)) (by decide) rfl (fun ls hl => ?_)
            refine lv_goto (tgt := 4) hx hb d_R_parts_44 (by decide) ?_
            exact ih1 (k + 1) (cnt + 1) (by omega) ls (lv_sub hl [2, 1, 0] rfl) (hf.trans (show fb_R_parts_1 u aX aY bX bY (fl_R_parts_1 u aX aY bX bY n1) k cnt = (fl_R_parts_1 u aX aY bX bY n1 (k + 1) (cnt + 1)) from by unfold fb_R_parts_1; rw [if_pos c3a, if_pos c4a]))
  exact key1 20 0 0 (by omega) ls (lv_sub hl [2, 1, 0] rfl) (show f_R_parts u aX aY bX bY = (fl_R_parts_1 u aX aY bX bY 20 0 0) from rfl)
def f_R_isUpright (u : Nat → Bool) (aX : Nat → Int32) (aY : Nat → Int32) (bX : Nat → Int32) (bY : Nat → Int32) (k : Nat) : Bool := if aX k = bX k then true else false
theorem i_R_isUpright : inV y_R_isUpright b_R_isUpright 2 (some .boolean) 1 := ⟨kM_y_R_isUpright, kV_y_R_isUpright, kI_R, kY_y_R_isUpright, by decide +kernel⟩
set_option maxHeartbeats 4000000 in
set_option maxRecDepth 100000 in
theorem c_R_isUpright (l : Launch) (D : va_G) (q0 qu qa qb qc qd qe qf qg qh : Nat) (cZ cI : ClassId) (u : Nat → Bool) (aX aY bX bY : Nat → Int32) (kn : Bool) (lns : Nat) (ln : Nat → Int32) (ac mn sm : Nat → Nat) (k : Nat) (hk : k < 20) : PM l y_R_isUpright b_R_isUpright 2 (some .boolean) 0 0 D (refW q0 qu qa qb qc qd qe qf qg qh cZ cI u aX aY bX bY kn lns ln ac mn sm) [(cZ, .boolean), (cI, .int)] [.ref q0, .int (nI (k))] (b2i (f_R_isUpright u aX aY bX bY k)) := by
  refine pMet rfl (fun p e s m below meth c S hr hlk hP hK ls hl => ?_) (Nat.le_of_ble_eq_true rfl)
  have hx := S.1
  have hb := S.2.1
  have hl : lv_has ls 2 [(0, .ref q0), (1, .int (nI (k)))] := hl
  refine lv_aload_n hx hb d_R_isUpright_0 rfl (lv_at hl 0 rfl) ?_
  refine rget S hK hP 0 rfl rfl in_R 1 (by decide) kF_R_13 rfl d_R_isUpright_1 ?_
  refine lv_iload_n hx hb d_R_isUpright_4 rfl (lv_at hl 1 rfl) ?_
  refine riald (j := k) S hK hP 2 1 rfl rfl (by omega) (by first | decide | omega) d_R_isUpright_5 ?_
  refine lv_aload_n hx hb d_R_isUpright_6 rfl (lv_at hl 0 rfl) ?_
  refine rget S hK hP 0 rfl rfl in_R 3 (by decide) kF_R_20 rfl d_R_isUpright_7 ?_
  refine lv_iload_n hx hb d_R_isUpright_10 rfl (lv_at hl 1 rfl) ?_
  refine riald (j := k) S hK hP 4 1 rfl rfl (by omega) (by first | decide | omega) d_R_isUpright_11 ?_
  refine lv_icmp_ne (tgt := 19) hx hb d_R_isUpright_12 (by decide) (fun c1 => ?_) (fun c1 => ?_)
  · have c1a : ¬ (aX k = bX k) := c1
    refine lv_iconst (v := 0) hx hb d_R_isUpright_19 (by decide) ?_
    exact rretZ S hr hlk (v := false) (show f_R_isUpright u aX aY bX bY k = false from by unfold f_R_isUpright; rw [if_neg c1a]).symm d_R_isUpright_20
  · have c1a : aX k = bX k := c1
    refine lv_iconst (v := 1) hx hb d_R_isUpright_15 (by decide) ?_
    refine lv_goto (tgt := 20) hx hb d_R_isUpright_16 (by decide) ?_
    exact rretZ S hr hlk (v := true) (show f_R_isUpright u aX aY bX bY k = true from by unfold f_R_isUpright; rw [if_pos c1a]).symm d_R_isUpright_20
def f_R_rise (u : Nat → Bool) (aX : Nat → Int32) (aY : Nat → Int32) (bX : Nat → Int32) (bY : Nat → Int32) (k : Nat) (x : Int32) : Int32 := ((aY k * (bX k - aX k)) + ((bY k - aY k) * (x - aX k)))
theorem i_R_rise : inV y_R_rise b_R_rise 3 (some .int) 2 := ⟨kM_y_R_rise, kV_y_R_rise, kI_R, kY_y_R_rise, by decide +kernel⟩
set_option maxHeartbeats 4000000 in
set_option maxRecDepth 100000 in
theorem c_R_rise (l : Launch) (D : va_G) (q0 qu qa qb qc qd qe qf qg qh : Nat) (cZ cI : ClassId) (u : Nat → Bool) (aX aY bX bY : Nat → Int32) (kn : Bool) (lns : Nat) (ln : Nat → Int32) (ac mn sm : Nat → Nat) (k : Nat) (x : Int32) (hk : k < 20) : PM l y_R_rise b_R_rise 3 (some .int) 0 0 D (refW q0 qu qa qb qc qd qe qf qg qh cZ cI u aX aY bX bY kn lns ln ac mn sm) [(cZ, .boolean), (cI, .int)] [.ref q0, .int (nI (k)), .int x] (f_R_rise u aX aY bX bY k x) := by
  refine pMet rfl (fun p e s m below meth c S hr hlk hP hK ls hl => ?_) (Nat.le_of_ble_eq_true rfl)
  have hx := S.1
  have hb := S.2.1
  have hl : lv_has ls 3 [(0, .ref q0), (1, .int (nI (k))), (2, .int x)] := hl
  refine lv_aload_n hx hb d_R_rise_0 rfl (lv_at hl 0 rfl) ?_
  refine rget S hK hP 0 rfl rfl in_R 2 (by decide) kF_R_17 rfl d_R_rise_1 ?_
  refine lv_iload_n hx hb d_R_rise_4 rfl (lv_at hl 1 rfl) ?_
  refine riald (j := k) S hK hP 3 1 rfl rfl (by omega) (by first | decide | omega) d_R_rise_5 ?_
  refine lv_aload_n hx hb d_R_rise_6 rfl (lv_at hl 0 rfl) ?_
  refine rget S hK hP 0 rfl rfl in_R 3 (by decide) kF_R_20 rfl d_R_rise_7 ?_
  refine lv_iload_n hx hb d_R_rise_10 rfl (lv_at hl 1 rfl) ?_
  refine riald (j := k) S hK hP 4 1 rfl rfl (by omega) (by first | decide | omega) d_R_rise_11 ?_
  refine lv_aload_n hx hb d_R_rise_12 rfl (lv_at hl 0 rfl) ?_
  refine rget S hK hP 0 rfl rfl in_R 1 (by decide) kF_R_13 rfl d_R_rise_13 ?_
  refine lv_iload_n hx hb d_R_rise_16 rfl (lv_at hl 1 rfl) ?_
  refine riald (j := k) S hK hP 2 1 rfl rfl (by omega) (by first | decide | omega) d_R_rise_17 ?_
  refine lv_isub hx hb d_R_rise_18 ?_
  refine lv_imul hx hb d_R_rise_19 ?_
  refine lv_aload_n hx hb d_R_rise_20 rfl (lv_at hl 0 rfl) ?_
  refine rget S hK hP 0 rfl rfl in_R 4 (by decide) kF_R_23 rfl d_R_rise_21 ?_
  refine lv_iload_n hx hb d_R_rise_24 rfl (lv_at hl 1 rfl) ?_
  refine riald (j := k) S hK hP 5 1 rfl rfl (by omega) (by first | decide | omega) d_R_rise_25 ?_
  refine lv_aload_n hx hb d_R_rise_26 rfl (lv_at hl 0 rfl) ?_
  refine rget S hK hP 0 rfl rfl in_R 2 (by decide) kF_R_17 rfl d_R_rise_27 ?_
  refine lv_iload_n hx hb d_R_rise_30 rfl (lv_at hl 1 rfl) ?_
  refine riald (j := k) S hK hP 3 1 rfl rfl (by omega) (by first | decide | omega) d_R_rise_31 ?_
  refine lv_isub hx hb d_R_rise_32 ?_
  refine lv_iload_n hx hb d_R_rise_33 rfl (lv_at hl 2 rfl) ?_
  refine lv_aload_n hx hb d_R_rise_34 rfl (lv_at hl 0 rfl) ?_
  refine rget S hK hP 0 rfl rfl in_R 1 (by decide) kF_R_13 rfl d_R_rise_35 ?_
  refine lv_iload_n hx hb d_R_rise_38 rfl (lv_at hl 1 rfl) ?_
  refine riald (j := k) S hK hP 2 1 rfl rfl (by omega) (by first | decide | omega) d_R_rise_39 ?_
  refine lv_isub hx hb d_R_rise_40 ?_
  refine lv_imul hx hb d_R_rise_41 ?_
  refine lv_iadd hx hb d_R_rise_42 ?_
  exact rret S hr hlk (v := ((aY k * (bX k - aX k)) + ((bY k - aY k) * (x - aX k)))) (show f_R_rise u aX aY bX bY k x = ((aY k * (bX k - aX k)) + ((bY k - aY k) * (x - aX k))) from rfl).symm d_R_rise_43
def f_R_width (u : Nat → Bool) (aX : Nat → Int32) (aY : Nat → Int32) (bX : Nat → Int32) (bY : Nat → Int32) (k : Nat) : Int32 := (bX k - aX k)
theorem i_R_width : inV y_R_width b_R_width 2 (some .int) 1 := ⟨kM_y_R_width, kV_y_R_width, kI_R, kY_y_R_width, by decide +kernel⟩
set_option maxHeartbeats 4000000 in
set_option maxRecDepth 100000 in
theorem c_R_width (l : Launch) (D : va_G) (q0 qu qa qb qc qd qe qf qg qh : Nat) (cZ cI : ClassId) (u : Nat → Bool) (aX aY bX bY : Nat → Int32) (kn : Bool) (lns : Nat) (ln : Nat → Int32) (ac mn sm : Nat → Nat) (k : Nat) (hk : k < 20) : PM l y_R_width b_R_width 2 (some .int) 0 0 D (refW q0 qu qa qb qc qd qe qf qg qh cZ cI u aX aY bX bY kn lns ln ac mn sm) [(cZ, .boolean), (cI, .int)] [.ref q0, .int (nI (k))] (f_R_width u aX aY bX bY k) := by
  refine pMet rfl (fun p e s m below meth c S hr hlk hP hK ls hl => ?_) (Nat.le_of_ble_eq_true rfl)
  have hx := S.1
  have hb := S.2.1
  have hl : lv_has ls 2 [(0, .ref q0), (1, .int (nI (k)))] := hl
  refine lv_aload_n hx hb d_R_width_0 rfl (lv_at hl 0 rfl) ?_
  refine rget S hK hP 0 rfl rfl in_R 3 (by decide) kF_R_20 rfl d_R_width_1 ?_
  refine lv_iload_n hx hb d_R_width_4 rfl (lv_at hl 1 rfl) ?_
  refine riald (j := k) S hK hP 4 1 rfl rfl (by omega) (by first | decide | omega) d_R_width_5 ?_
  refine lv_aload_n hx hb d_R_width_6 rfl (lv_at hl 0 rfl) ?_
  refine rget S hK hP 0 rfl rfl in_R 1 (by decide) kF_R_13 rfl d_R_width_7 ?_
  refine lv_iload_n hx hb d_R_width_10 rfl (lv_at hl 1 rfl) ?_
  refine riald (j := k) S hK hP 2 1 rfl rfl (by omega) (by first | decide | omega) d_R_width_11 ?_
  refine lv_isub hx hb d_R_width_12 ?_
  exact rret S hr hlk (v := (bX k - aX k)) (show f_R_width u aX aY bX bY k = (bX k - aX k) from rfl).symm d_R_width_13
def f_R_below (u : Nat → Bool) (aX : Nat → Int32) (aY : Nat → Int32) (bX : Nat → Int32) (bY : Nat → Int32) (k : Nat) (j : Nat) (tx : Int32) : Bool := f_R_less (((2 * aY k) * (f_R_width u aX aY bX bY k)) + ((bY k - aY k) * (tx - (2 * aX k)))) (f_R_width u aX aY bX bY k) (((2 * aY j) * (f_R_width u aX aY bX bY j)) + ((bY j - aY j) * (tx - (2 * aX j)))) (f_R_width u aX aY bX bY j)
theorem i_R_below : inV y_R_below b_R_below 6 (some .boolean) 3 := ⟨kM_y_R_below, kV_y_R_below, kI_R, kY_y_R_below, by decide +kernel⟩
set_option maxHeartbeats 4000000 in
set_option maxRecDepth 100000 in
theorem c_R_below (l : Launch) (D : va_G) (q0 qu qa qb qc qd qe qf qg qh : Nat) (cZ cI : ClassId) (u : Nat → Bool) (aX aY bX bY : Nat → Int32) (kn : Bool) (lns : Nat) (ln : Nat → Int32) (ac mn sm : Nat → Nat) (k : Nat) (j : Nat) (tx : Int32) (hk : k < 20) (hj : j < 20) : PM l y_R_below b_R_below 6 (some .boolean) 1 23 D (refW q0 qu qa qb qc qd qe qf qg qh cZ cI u aX aY bX bY kn lns ln ac mn sm) [(cZ, .boolean), (cI, .int)] [.ref q0, .int (nI (k)), .int (nI (j)), .int tx] (b2i (f_R_below u aX aY bX bY k j tx)) := by
  refine pMet rfl (fun p e s m below meth c S hr hlk hP hK ls hl => ?_) (Nat.le_of_ble_eq_true rfl)
  have hx := S.1
  have hb := S.2.1
  have hl : lv_has ls 6 [(0, .ref q0), (1, .int (nI (k))), (2, .int (nI (j))), (3, .int tx)] := hl
  refine lv_iconst (v := 2) hx hb d_R_below_0 (by decide) ?_
  refine lv_aload_n hx hb d_R_below_1 rfl (lv_at hl 0 rfl) ?_
  refine rget S hK hP 0 rfl rfl in_R 2 (by decide) kF_R_17 rfl d_R_below_2 ?_
  refine lv_iload_n hx hb d_R_below_5 rfl (lv_at hl 1 rfl) ?_
  refine riald (j := k) S hK hP 3 1 rfl rfl (by omega) (by first | decide | omega) d_R_below_6 ?_
  refine lv_imul hx hb d_R_below_7 ?_
  refine lv_aload_n hx hb d_R_below_8 rfl (lv_at hl 0 rfl) ?_
  refine lv_iload_n hx hb d_R_below_9 rfl (lv_at hl 1 rfl) ?_
  refine rcallV (rest := [.int ((2 * aY k))]) (v := (f_R_width u aX aY bX bY k)) S [.int (nI (k))] hK hP [0, 1, 2, 3, 4, 5, 6, 7, 8, 9] rfl [0, 1] rfl (c_R_width l D q0 qu qa qb qc qd qe qf qg qh cZ cI u aX aY bX bY kn lns ln ac mn sm k (by omega)) i_R_width kL_R_82 ⟨Nat.le_of_ble_eq_true rfl, Nat.le_of_ble_eq_true rfl⟩ (by exact ⟨Nat.zero_le _, Nat.zero_le _⟩) (q0 := 0) (ci := 3) rfl rfl rfl hl.1 rfl (Nat.le_of_ble_eq_true rfl) d_R_below_10 ?_
  refine lv_imul hx hb d_R_below_13 ?_
  refine lv_aload_n hx hb d_R_below_14 rfl (lv_at hl 0 rfl) ?_
  refine rget S hK hP 0 rfl rfl in_R 4 (by decide) kF_R_23 rfl d_R_below_15 ?_
  refine lv_iload_n hx hb d_R_below_18 rfl (lv_at hl 1 rfl) ?_
  refine riald (j := k) S hK hP 5 1 rfl rfl (by omega) (by first | decide | omega) d_R_below_19 ?_
  refine lv_aload_n hx hb d_R_below_20 rfl (lv_at hl 0 rfl) ?_
  refine rget S hK hP 0 rfl rfl in_R 2 (by decide) kF_R_17 rfl d_R_below_21 ?_
  refine lv_iload_n hx hb d_R_below_24 rfl (lv_at hl 1 rfl) ?_
  refine riald (j := k) S hK hP 3 1 rfl rfl (by omega) (by first | decide | omega) d_R_below_25 ?_
  refine lv_isub hx hb d_R_below_26 ?_
  refine lv_iload_n hx hb d_R_below_27 rfl (lv_at hl 3 rfl) ?_
  refine lv_iconst (v := 2) hx hb d_R_below_28 (by decide) ?_
  refine lv_aload_n hx hb d_R_below_29 rfl (lv_at hl 0 rfl) ?_
  refine rget S hK hP 0 rfl rfl in_R 1 (by decide) kF_R_13 rfl d_R_below_30 ?_
  refine lv_iload_n hx hb d_R_below_33 rfl (lv_at hl 1 rfl) ?_
  refine riald (j := k) S hK hP 2 1 rfl rfl (by omega) (by first | decide | omega) d_R_below_34 ?_
  refine lv_imul hx hb d_R_below_35 ?_
  refine lv_isub hx hb d_R_below_36 ?_
  refine lv_imul hx hb d_R_below_37 ?_
  refine lv_iadd hx hb d_R_below_38 ?_
  refine lv_istore (lv' := [(4, .int ((((2 * aY k) * (f_R_width u aX aY bX bY k)) + ((bY k - aY k) * (tx - (2 * aX k)))))), (0, .ref q0), (1, .int (nI (k))), (2, .int (nI (j))), (3, .int tx)]) hx hb d_R_below_39 hl (by decide) rfl (fun ls hl => ?_)
  refine lv_iconst (v := 2) hx hb d_R_below_41 (by decide) ?_
  refine lv_aload_n hx hb d_R_below_42 rfl (lv_at hl 1 rfl) ?_
  refine rget S hK hP 0 rfl rfl in_R 2 (by decide) kF_R_17 rfl d_R_below_43 ?_
  refine lv_iload_n hx hb d_R_below_46 rfl (lv_at hl 3 rfl) ?_
  refine riald (j := j) S hK hP 3 1 rfl rfl (by omega) (by first | decide | omega) d_R_below_47 ?_
  refine lv_imul hx hb d_R_below_48 ?_
  refine lv_aload_n hx hb d_R_below_49 rfl (lv_at hl 1 rfl) ?_
  refine lv_iload_n hx hb d_R_below_50 rfl (lv_at hl 3 rfl) ?_
  refine rcallV (rest := [.int ((2 * aY j))]) (v := (f_R_width u aX aY bX bY j)) S [.int (nI (j))] hK hP [0, 1, 2, 3, 4, 5, 6, 7, 8, 9] rfl [0, 1] rfl (c_R_width l D q0 qu qa qb qc qd qe qf qg qh cZ cI u aX aY bX bY kn lns ln ac mn sm j (by omega)) i_R_width kL_R_82 ⟨Nat.le_of_ble_eq_true rfl, Nat.le_of_ble_eq_true rfl⟩ (by exact ⟨Nat.zero_le _, Nat.zero_le _⟩) (q0 := 0) (ci := 3) rfl rfl rfl hl.1 rfl (Nat.le_of_ble_eq_true rfl) d_R_below_51 ?_
  refine lv_imul hx hb d_R_below_54 ?_
  refine lv_aload_n hx hb d_R_below_55 rfl (lv_at hl 1 rfl) ?_
  refine rget S hK hP 0 rfl rfl in_R 4 (by decide) kF_R_23 rfl d_R_below_56 ?_
  refine lv_iload_n hx hb d_R_below_59 rfl (lv_at hl 3 rfl) ?_
  refine riald (j := j) S hK hP 5 1 rfl rfl (by omega) (by first | decide | omega) d_R_below_60 ?_
  refine lv_aload_n hx hb d_R_below_61 rfl (lv_at hl 1 rfl) ?_
  refine rget S hK hP 0 rfl rfl in_R 2 (by decide) kF_R_17 rfl d_R_below_62 ?_
  refine lv_iload_n hx hb d_R_below_65 rfl (lv_at hl 3 rfl) ?_
  refine riald (j := j) S hK hP 3 1 rfl rfl (by omega) (by first | decide | omega) d_R_below_66 ?_
  refine lv_isub hx hb d_R_below_67 ?_
  refine lv_iload_n hx hb d_R_below_68 rfl (lv_at hl 4 rfl) ?_
  refine lv_iconst (v := 2) hx hb d_R_below_69 (by decide) ?_
  refine lv_aload_n hx hb d_R_below_70 rfl (lv_at hl 1 rfl) ?_
  refine rget S hK hP 0 rfl rfl in_R 1 (by decide) kF_R_13 rfl d_R_below_71 ?_
  refine lv_iload_n hx hb d_R_below_74 rfl (lv_at hl 3 rfl) ?_
  refine riald (j := j) S hK hP 2 1 rfl rfl (by omega) (by first | decide | omega) d_R_below_75 ?_
  refine lv_imul hx hb d_R_below_76 ?_
  refine lv_isub hx hb d_R_below_77 ?_
  refine lv_imul hx hb d_R_below_78 ?_
  refine lv_iadd hx hb d_R_below_79 ?_
  refine lv_istore (lv' := [(5, .int ((((2 * aY j) * (f_R_width u aX aY bX bY j)) + ((bY j - aY j) * (tx - (2 * aX j)))))), (4, .int ((((2 * aY k) * (f_R_width u aX aY bX bY k)) + ((bY k - aY k) * (tx - (2 * aX k)))))), (0, .ref q0), (1, .int (nI (k))), (2, .int (nI (j))), (3, .int tx)]) hx hb d_R_below_80 hl (by decide) rfl (fun ls hl => ?_)
  refine lv_iload hx hb d_R_below_82 (lv_at hl 1 rfl) ?_
  refine lv_aload_n hx hb d_R_below_84 rfl (lv_at hl 2 rfl) ?_
  refine lv_iload_n hx hb d_R_below_85 rfl (lv_at hl 3 rfl) ?_
  refine rcallV (rest := [.int ((((2 * aY k) * (f_R_width u aX aY bX bY k)) + ((bY k - aY k) * (tx - (2 * aX k)))))]) (v := (f_R_width u aX aY bX bY k)) S [.int (nI (k))] hK hP [0, 1, 2, 3, 4, 5, 6, 7, 8, 9] rfl [0, 1] rfl (c_R_width l D q0 qu qa qb qc qd qe qf qg qh cZ cI u aX aY bX bY kn lns ln ac mn sm k (by omega)) i_R_width kL_R_82 ⟨Nat.le_of_ble_eq_true rfl, Nat.le_of_ble_eq_true rfl⟩ (by exact ⟨Nat.zero_le _, Nat.zero_le _⟩) (q0 := 0) (ci := 3) rfl rfl rfl hl.1 rfl (Nat.le_of_ble_eq_true rfl) d_R_below_86 ?_
  refine lv_iload hx hb d_R_below_89 (lv_at hl 0 rfl) ?_
  refine lv_aload_n hx hb d_R_below_91 rfl (lv_at hl 2 rfl) ?_
  refine lv_iload_n hx hb d_R_below_92 rfl (lv_at hl 4 rfl) ?_
  refine rcallV (rest := [.int ((((2 * aY j) * (f_R_width u aX aY bX bY j)) + ((bY j - aY j) * (tx - (2 * aX j))))), .int ((f_R_width u aX aY bX bY k)), .int ((((2 * aY k) * (f_R_width u aX aY bX bY k)) + ((bY k - aY k) * (tx - (2 * aX k)))))]) (v := (f_R_width u aX aY bX bY j)) S [.int (nI (j))] hK hP [0, 1, 2, 3, 4, 5, 6, 7, 8, 9] rfl [0, 1] rfl (c_R_width l D q0 qu qa qb qc qd qe qf qg qh cZ cI u aX aY bX bY kn lns ln ac mn sm j (by omega)) i_R_width kL_R_82 ⟨Nat.le_of_ble_eq_true rfl, Nat.le_of_ble_eq_true rfl⟩ (by exact ⟨Nat.zero_le _, Nat.zero_le _⟩) (q0 := 0) (ci := 3) rfl rfl rfl hl.1 rfl (Nat.le_of_ble_eq_true rfl) d_R_below_93 ?_
  refine rcallS (rest := []) (v := b2i (f_R_less (((2 * aY k) * (f_R_width u aX aY bX bY k)) + ((bY k - aY k) * (tx - (2 * aX k)))) (f_R_width u aX aY bX bY k) (((2 * aY j) * (f_R_width u aX aY bX bY j)) + ((bY j - aY j) * (tx - (2 * aX j)))) (f_R_width u aX aY bX bY j))) S [.int ((((2 * aY k) * (f_R_width u aX aY bX bY k)) + ((bY k - aY k) * (tx - (2 * aX k))))), .int ((f_R_width u aX aY bX bY k)), .int ((((2 * aY j) * (f_R_width u aX aY bX bY j)) + ((bY j - aY j) * (tx - (2 * aX j))))), .int ((f_R_width u aX aY bX bY j))] hK hP [] rfl [] rfl (c_R_less l D (((2 * aY k) * (f_R_width u aX aY bX bY k)) + ((bY k - aY k) * (tx - (2 * aX k)))) (f_R_width u aX aY bX bY k) (((2 * aY j) * (f_R_width u aX aY bX bY j)) + ((bY j - aY j) * (tx - (2 * aX j)))) (f_R_width u aX aY bX bY j) ) i_R_less rfl kL_R_90 ⟨Nat.le_of_ble_eq_true rfl, Nat.le_of_ble_eq_true rfl⟩ (by exact ⟨Nat.zero_le _, Nat.zero_le _⟩) hl.1 rfl (Nat.le_of_ble_eq_true rfl) d_R_below_96 ?_
  exact rretZ S hr hlk (v := f_R_less (((2 * aY k) * (f_R_width u aX aY bX bY k)) + ((bY k - aY k) * (tx - (2 * aX k)))) (f_R_width u aX aY bX bY k) (((2 * aY j) * (f_R_width u aX aY bX bY j)) + ((bY j - aY j) * (tx - (2 * aX j)))) (f_R_width u aX aY bX bY j)) (show f_R_below u aX aY bX bY k j tx = (f_R_less (((2 * aY k) * (f_R_width u aX aY bX bY k)) + ((bY k - aY k) * (tx - (2 * aX k)))) (f_R_width u aX aY bX bY k) (((2 * aY j) * (f_R_width u aX aY bX bY j)) + ((bY j - aY j) * (tx - (2 * aX j)))) (f_R_width u aX aY bX bY j)) from rfl).symm d_R_below_99
