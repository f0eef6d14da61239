def fx_M_struckAbove (u : Nat → Bool) (X : Nat → Int32) (Y : Nat → Int32) (x : Int32) (y : Int32) (k : Nat) (best : Int32) (br : Int32) (bn : Int32) : Int32 := best
def fb_M_struckAbove (u : Nat → Bool) (X : Nat → Int32) (Y : Nat → Int32) (x : Int32) (y : Int32) (rec : Nat → Int32 → Int32 → Int32 → Int32) (k : Nat) (best : Int32) (br : Int32) (bn : Int32) : Int32 := if u k = true then (if x < X (2 * k) then (rec (k + 1) best br bn) else (if x ≤ X ((2 * k) + 1) then (if (((Y (2 * k) - y) * (if 1 < (f_M_stepX u X Y (2 * k)) then (f_M_stepX u X Y (2 * k)) else 1)) + ((f_M_stepY u X Y (2 * k)) * (x - X (2 * k)))) ≤ 0 then (rec (k + 1) best br bn) else (if best = (-1) then (rec (k + 1) (nI (k)) (((Y (2 * k) - y) * (if 1 < (f_M_stepX u X Y (2 * k)) then (f_M_stepX u X Y (2 * k)) else 1)) + ((f_M_stepY u X Y (2 * k)) * (x - X (2 * k)))) (if 1 < (f_M_stepX u X Y (2 * k)) then (f_M_stepX u X Y (2 * k)) else 1)) else (if (br * (if 1 < (f_M_stepX u X Y (2 * k)) then (f_M_stepX u X Y (2 * k)) else 1)) ≤ ((((Y (2 * k) - y) * (if 1 < (f_M_stepX u X Y (2 * k)) then (f_M_stepX u X Y (2 * k)) else 1)) + ((f_M_stepY u X Y (2 * k)) * (x - X (2 * k)))) * bn) then (rec (k + 1) best br bn) else (rec (k + 1) (nI (k)) (((Y (2 * k) - y) * (if 1 < (f_M_stepX u X Y (2 * k)) then (f_M_stepX u X Y (2 * k)) else 1)) + ((f_M_stepY u X Y (2 * k)) * (x - X (2 * k)))) (if 1 < (f_M_stepX u X Y (2 * k)) then (f_M_stepX u X Y (2 * k)) else 1))))) else (rec (k + 1) best br bn))) else (rec (k + 1) best br bn)
def fl_M_struckAbove (u : Nat → Bool) (X : Nat → Int32) (Y : Nat → Int32) (x : Int32) (y : Int32) : Nat → Nat → Int32 → Int32 → Int32 → Int32
  | 0, k, best, br, bn => fx_M_struckAbove u X Y x y k best br bn
  | n + 1, k, best, br, bn => fb_M_struckAbove u X Y x y (fl_M_struckAbove u X Y x y n) k best br bn
def f_M_struckAbove (u : Nat → Bool) (X : Nat → Int32) (Y : Nat → Int32) (x : Int32) (y : Int32) : Int32 := fl_M_struckAbove u X Y x y 20 0 (-1) 0 1
theorem i_M_struckAbove : inV y_M_struckAbove b_M_struckAbove 10 (some .int) 2 := ⟨kM_y_M_struckAbove, kV_y_M_struckAbove, kI_M, kY_y_M_struckAbove, by decide +kernel⟩
set_option maxHeartbeats 4000000 in
set_option maxRecDepth 100000 in
theorem c_M_struckAbove (l : Launch) (D : va_G) (hm hu hxs hys : Nat) (cZ cI : ClassId) (u : Nat → Bool) (X Y : Nat → Int32) (x : Int32) (y : Int32)   : PM l y_M_struckAbove b_M_struckAbove 10 (some .int) 1 21 D (mapW hm hu hxs hys cZ cI u X Y) [(cZ, .boolean), (cI, .int)] [.ref hm, .int x, .int y] (f_M_struckAbove u X Y x y) := by
  refine pMet rfl (fun p e s m below meth c S hr hlk hP hK ls hl => ?_) (Nat.le_of_ble_eq_true rfl)
  have hx := S.1
  have hb := S.2.1
  have hl : lv_has ls 10 [(0, .ref hm), (1, .int x), (2, .int y)] := hl
  have key : ∀ (n : Nat) (k : Nat) (best : Int32) (br : Int32) (bn : Int32) (hk : k + n = 20)  (ls : Array Slot) (hl : lv_has ls 10 [(0, .ref hm), (1, .int x), (2, .int y), (3, .int best), (4, .int br), (5, .int bn), (6, .int (nI (k)))]) (hf : f_M_struckAbove u X Y x y = fl_M_struckAbove u X Y x y n k best br bn), W p l e { frames := 1, cells := 0, slots := 0, locals := 21 } s m [.ref hm, .int x, .int y].toArray below meth c s.heap [] 0 0 (MQ below (pQ ((f_M_struckAbove u X Y x y))) [.ref hm, .int x, .int y].toArray s 0 0 (fun _ => False)) (F0 m 11 ls []) := by
    intro n
    induction n with
    | zero =>
      intro k best br bn hk  ls hl hf
      refine lv_iload hx hb d_M_struckAbove_11 (lv_at hl 6 rfl) ?_
      refine lv_bipush (v := 20) hx hb d_M_struckAbove_13 (by decide) ?_
      refine lv_icmp_ge (tgt := 144) hx hb d_M_struckAbove_15 (by decide) (fun c1 => ?_) (fun c1 => ?_)
      · have c1a : 20 ≤ k := (nI_leI (a := 20) (b := k) (by decide) (by omega)).mp c1
        refine lv_iload_n hx hb d_M_struckAbove_144 rfl (lv_at hl 3 rfl) ?_
        exact rret S hr hlk (v := best) (hf.trans (show fx_M_struckAbove u X Y x y k best br bn = best from rfl)).symm d_M_struckAbove_145
      · have c1a : ¬ (20 ≤ k) := fun h => c1 ((nI_leI (a := 20) (b := k) (by decide) (by omega)).mpr h)
        omega
    | succ n ih =>
      intro k best br bn hk  ls hl hf
      refine lv_iload hx hb d_M_struckAbove_11 (lv_at hl 6 rfl) ?_
      refine lv_bipush (v := 20) hx hb d_M_struckAbove_13 (by decide) ?_
      refine lv_icmp_ge (tgt := 144) hx hb d_M_struckAbove_15 (by decide) (fun c2 => ?_) (fun c2 => ?_)
      · have c2a : 20 ≤ k := (nI_leI (a := 20) (b := k) (by decide) (by omega)).mp c2
        omega
      · have c2a : ¬ (20 ≤ k) := fun h => c2 ((nI_leI (a := 20) (b := k) (by decide) (by omega)).mpr h)
        refine lv_iconst (v := 2) hx hb d_M_struckAbove_18 (by decide) ?_
        refine lv_iload hx hb d_M_struckAbove_19 (lv_at hl 6 rfl) ?_
        refine lv_imul hx hb d_M_struckAbove_21 ?_
        refine rtop (y := nI (2 * k)) (pk_mul (2) (k)) ?_
        refine lv_istore (lv' := [(7, .int (nI (2 * k))), (0, .ref hm), (1, .int x), (2, .int y), (3, .int best), (4, .int br), (5, .int bn), (6, .int (nI (k)))]) hx hb d_M_struckAbove_22 hl (by decide) rfl (fun ls hl => ?_)
        refine lv_aload_n hx hb d_M_struckAbove_24 rfl (lv_at hl 1 rfl) ?_
        refine rget S hK hP 0 rfl rfl in_M 0 (by decide) kF_M_9 rfl d_M_struckAbove_25 ?_
        refine lv_iload hx hb d_M_struckAbove_28 (lv_at hl 7 rfl) ?_
        refine rzald (j := k) S hK hP 1 0 rfl rfl (by omega) (by first | decide | omega) d_M_struckAbove_30 ?_
        refine lv_if_eq (tgt := 138) hx hb d_M_struckAbove_31 (by decide) (fun c3 => ?_) (fun c3 => ?_)
        · have c3a : ¬ (u k = true) := b2n (b2i_eq0.mp c3)
          refine lv_iinc (v := nI (k + 1)) (lv' := [(6, .int (nI (k + 1))), (7, .int (nI (2 * k))), (0, .ref hm), (1, .int x), (2, .int y), (3, .int best), (4, .int br), (5, .int bn)]) hx hb d_M_struckAbove_138 hl (k := 7) rfl (nI_1 (k)) (by decide) rfl (fun ls hl => ?_)
          refine lv_goto (tgt := 11) hx hb d_M_struckAbove_141 (by decide) ?_
          exact ih (k + 1) best br bn (by omega)  ls (lv_sub hl [2, 3, 4, 5, 6, 7, 0] rfl) (hf.trans (show fb_M_struckAbove u X Y x y (fl_M_struckAbove u X Y x y n) k best br bn = (fl_M_struckAbove u X Y x y n (k + 1) best br bn) from by unfold fb_M_struckAbove; rw [if_neg c3a]))
        · have c3a : u k = true := b2i_ne0.mp c3
          refine lv_iload_n hx hb d_M_struckAbove_34 rfl (lv_at hl 2 rfl) ?_
          refine lv_aload_n hx hb d_M_struckAbove_35 rfl (lv_at hl 1 rfl) ?_
          refine rget S hK hP 0 rfl rfl in_M 1 (by decide) kF_M_15 rfl d_M_struckAbove_36 ?_
          refine lv_iload hx hb d_M_struckAbove_39 (lv_at hl 0 rfl) ?_
          refine riald (j := 2 * k) S hK hP 2 1 rfl rfl (by omega) (by first | decide | omega) d_M_struckAbove_41 ?_
          refine lv_icmp_lt (tgt := 138) hx hb d_M_struckAbove_42 (by decide) (fun c4 => ?_) (fun c4 => ?_)
          · have c4a : x < X (2 * k) := c4
            refine lv_iinc (v := nI (k + 1)) (lv' := [(6, .int (nI (k + 1))), (7, .int (nI (2 * k))), (0, .ref hm), (1, .int x), (2, .int y), (3, .int best), (4, .int br), (5, .int bn)]) hx hb d_M_struckAbove_138 hl (k := 7) rfl (nI_1 (k)) (by decide) rfl (fun ls hl => ?_)
            refine lv_goto (tgt := 11) hx hb d_M_struckAbove_141 (by decide) ?_
            exact ih (k + 1) best br bn (by omega)  ls (lv_sub hl [2, 3, 4, 5, 6, 7, 0] rfl) (hf.trans (show fb_M_struckAbove u X Y x y (fl_M_struckAbove u X Y x y n) k best br bn = (fl_M_struckAbove u X Y x y n (k + 1) best br bn) from by unfold fb_M_struckAbove; rw [if_pos c3a, if_pos c4a]))
          · have c4a : ¬ (x < X (2 * k)) := c4
            refine lv_iload_n hx hb d_M_struckAbove_45 rfl (lv_at hl 2 rfl) ?_
            refine lv_aload_n hx hb d_M_struckAbove_46 rfl (lv_at hl 1 rfl) ?_
            refine rget S hK hP 0 rfl rfl in_M 1 (by decide) kF_M_15 rfl d_M_struckAbove_47 ?_
            refine lv_iload hx hb d_M_struckAbove_50 (lv_at hl 0 rfl) ?_
            refine lv_iconst (v := 1) hx hb d_M_struckAbove_52 (by decide) ?_
            refine lv_iadd hx hb d_M_struckAbove_53 ?_
            refine rtop (y := nI ((2 * k) + 1)) (nI_add (2 * k) (1)) ?_
            refine riald (j := (2 * k) + 1) S hK hP 2 1 rfl rfl (by omega) (by first | decide | omega) d_M_struckAbove_54 ?_
            refine lv_icmp_le (tgt := 61) hx hb d_M_struckAbove_55 (by decide) (fun c5 => ?_) (fun c5 => ?_)
            · have c5a : x ≤ X ((2 * k) + 1) := c5
              refine lv_iconst (v := 1) hx hb d_M_struckAbove_61 (by decide) ?_
              refine lv_aload_n hx hb d_M_struckAbove_62 rfl (lv_at hl 1 rfl) ?_
              refine lv_iload hx hb d_M_struckAbove_63 (lv_at hl 0 rfl) ?_
              refine rcallV (rest := [.int 1]) (v := (f_M_stepX u X Y (2 * k))) S [.int (nI (2 * k))] hK hP [0, 1, 2, 3] rfl [0, 1] rfl (c_M_stepX l D hm hu hxs hys cZ cI u X Y (2 * k) (by omega)) i_M_stepX kL_M_46 ⟨Nat.le_of_ble_eq_true rfl, Nat.le_of_ble_eq_true rfl⟩ (by exact ⟨Nat.zero_le _, Nat.zero_le _⟩) (q0 := 0) (ci := 1) rfl rfl rfl hl.1 rfl (Nat.le_of_ble_eq_true rfl) d_M_struckAbove_65 ?_
              refine va_mmax hx hb (S.2.2.1.trans hl.1.symm) S.2.2.2.1 (S.2.2.2.2 _ kL_M_57) (S.2.2.2.2 _ kS_Lib_Math_max_name) (S.2.2.2.2 _ kI_java_lang_Math) (S.2.2.2.2 _ kY_Lib_Math_max_name) (Nat.le_of_ble_eq_true rfl) (Nat.le_of_ble_eq_true rfl) (Nat.zero_le _) (Nat.zero_le _) d_M_struckAbove_68 ?_
              refine lv_istore (lv' := [(8, .int ((if 1 < (f_M_stepX u X Y (2 * k)) then (f_M_stepX u X Y (2 * k)) else 1))), (7, .int (nI (2 * k))), (0, .ref hm), (1, .int x), (2, .int y), (3, .int best), (4, .int br), (5, .int bn), (6, .int (nI (k)))]) hx hb d_M_struckAbove_71 hl (by decide) rfl (fun ls hl => ?_)
              refine lv_aload_n hx hb d_M_struckAbove_73 rfl (lv_at hl 2 rfl) ?_
              refine rget S hK hP 0 rfl rfl in_M 2 (by decide) kF_M_19 rfl d_M_struckAbove_74 ?_
              refine lv_iload hx hb d_M_struckAbove_77 (lv_at hl 1 rfl) ?_
              refine riald (j := 2 * k) S hK hP 3 1 rfl rfl (by omega) (by first | decide | omega) d_M_struckAbove_79 ?_
              refine lv_iload_n hx hb d_M_struckAbove_80 rfl (lv_at hl 4 rfl) ?_
              refine lv_isub hx hb d_M_struckAbove_81 ?_
              refine lv_iload hx hb d_M_struckAbove_82 (lv_at hl 0 rfl) ?_
              refine lv_imul hx hb d_M_struckAbove_84 ?_
              refine lv_aload_n hx hb d_M_struckAbove_85 rfl (lv_at hl 2 rfl) ?_
              refine lv_iload hx hb d_M_struckAbove_86 (lv_at hl 1 rfl) ?_
              refine rcallV (rest := [.int (((Y (2 * k) - y) * (if 1 < (f_M_stepX u X Y (2 * k)) then (f_M_stepX u X Y (2 * k)) else 1)))]) (v := (f_M_stepY u X Y (2 * k))) S [.int (nI (2 * k))] hK hP [0, 1, 2, 3] rfl [0, 1] rfl (c_M_stepY l D hm hu hxs hys cZ cI u X Y (2 * k) (by omega)) i_M_stepY kL_M_50 ⟨Nat.le_of_ble_eq_true rfl, Nat.le_of_ble_eq_true rfl⟩ (by exact ⟨Nat.zero_le _, Nat.zero_le _⟩) (q0 := 0) (ci := 1) rfl rfl rfl hl.1 rfl (Nat.le_of_ble_eq_true rfl) d_M_struckAbove_88 ?_
              refine lv_iload_n hx hb d_M_struckAbove_91 rfl (lv_at hl 3 rfl) ?_
              refine lv_aload_n hx hb d_M_struckAbove_92 rfl (lv_at hl 2 rfl) ?_
              refine rget S hK hP 0 rfl rfl in_M 1 (by decide) kF_M_15 rfl d_M_struckAbove_93 ?_
              refine lv_iload hx hb d_M_struckAbove_96 (lv_at hl 1 rfl) ?_
              refine riald (j := 2 * k) S hK hP 2 1 rfl rfl (by omega) (by first | decide | omega) d_M_struckAbove_98 ?_
              refine lv_isub hx hb d_M_struckAbove_99 ?_
              refine lv_imul hx hb d_M_struckAbove_100 ?_
              refine lv_iadd hx hb d_M_struckAbove_101 ?_
              refine lv_istore (lv' := [(9, .int ((((Y (2 * k) - y) * (if 1 < (f_M_stepX u X Y (2 * k)) then (f_M_stepX u X Y (2 * k)) else 1)) + ((f_M_stepY u X Y (2 * k)) * (x - X (2 * k)))))), (8, .int ((if 1 < (f_M_stepX u X Y (2 * k)) then (f_M_stepX u X Y (2 * k)) else 1))), (7, .int (nI (2 * k))), (0, .ref hm), (1, .int x), (2, .int y), (3, .int best), (4, .int br), (5, .int bn), (6, .int (nI (k)))]) hx hb d_M_struckAbove_102 hl (by decide) rfl (fun ls hl => ?_)
              refine lv_iload hx hb d_M_struckAbove_104 (lv_at hl 0 rfl) ?_
              refine lv_if_le (tgt := 138) hx hb d_M_struckAbove_106 (by decide) (fun c6 => ?_) (fun c6 => ?_)
              · have c6a : (((Y (2 * k) - y) * (if 1 < (f_M_stepX u X Y (2 * k)) then (f_M_stepX u X Y (2 * k)) else 1)) + ((f_M_stepY u X Y (2 * k)) * (x - X (2 * k)))) ≤ 0 := c6
                refine lv_iinc (v := nI (k + 1)) (lv' := [(6, .int (nI (k + 1))), (9, .int ((((Y (2 * k) - y) * (if 1 < (f_M_stepX u X Y (2 * k)) then (f_M_stepX u X Y (2 * k)) else 1)) + ((f_M_stepY u X Y (2 * k)) * (x - X (2 * k)))))), (8, .int ((if 1 < (f_M_stepX u X Y (2 * k)) then (f_M_stepX u X Y (2 * k)) else 1))), (7, .int (nI (2 * k))), (0, .ref hm), (1, .int x), (2, .int y), (3, .int best), (4, .int br), (5, .int bn)]) hx hb d_M_struckAbove_138 hl (k := 9) rfl (nI_1 (k)) (by decide) rfl (fun ls hl => ?_)
                refine lv_goto (tgt := 11) hx hb d_M_struckAbove_141 (by decide) ?_
                exact ih (k + 1) best br bn (by omega)  ls (lv_sub hl [4, 5, 6, 7, 8, 9, 0] rfl) (hf.trans (show fb_M_struckAbove u X Y x y (fl_M_struckAbove u X Y x y n) k best br bn = (fl_M_struckAbove u X Y x y n (k + 1) best br bn) from by unfold fb_M_struckAbove; rw [if_pos c3a, if_neg c4a, if_pos c5a, if_pos c6a]))
              · have c6a : ¬ ((((Y (2 * k) - y) * (if 1 < (f_M_stepX u X Y (2 * k)) then (f_M_stepX u X Y (2 * k)) else 1)) + ((f_M_stepY u X Y (2 * k)) * (x - X (2 * k)))) ≤ 0) := c6
                refine lv_iload_n hx hb d_M_struckAbove_109 rfl (lv_at hl 6 rfl) ?_
                refine lv_iconst (v := (-1)) hx hb d_M_struckAbove_110 (by decide) ?_
                refine lv_icmp_eq (tgt := 127) hx hb d_M_struckAbove_111 (by decide) (fun c7 => ?_) (fun c7 => ?_)
                · have c7a : best = (-1) := c7
                  refine lv_iload hx hb d_M_struckAbove_127 (lv_at hl 9 rfl) ?_
                  refine lv_istore_n (lv' := [(3, .int (nI (k))), (9, .int ((((Y (2 * k) - y) * (if 1 < (f_M_stepX u X Y (2 * k)) then (f_M_stepX u X Y (2 * k)) else 1)) + ((f_M_stepY u X Y (2 * k)) * (x - X (2 * k)))))), (8, .int ((if 1 < (f_M_stepX u X Y (2 * k)) then (f_M_stepX u X Y (2 * k)) else 1))), (7, .int (nI (2 * k))), (0, .ref hm), (1, .int x), (2, .int y), (4, .int br), (5, .int bn), (6, .int (nI (k)))]) hx hb d_M_struckAbove_129 rfl hl (by decide) rfl (fun ls hl => ?_)
                  refine lv_iload hx hb d_M_struckAbove_130 (lv_at hl 1 rfl) ?_
                  refine lv_istore (lv' := [(4, .int ((((Y (2 * k) - y) * (if 1 < (f_M_stepX u X Y (2 * k)) then (f_M_stepX u X Y (2 * k)) else 1)) + ((f_M_stepY u X Y (2 * k)) * (x - X (2 * k)))))), (3, .int (nI (k))), (9, .int ((((Y (2 * k) - y) * (if 1 < (f_M_stepX u X Y (2 * k)) then (f_M_stepX u X Y (2 * k)) else 1)) + ((f_M_stepY u X Y (2 * k)) * (x - X (2 * k)))))), (8, .int ((if 1 < (f_M_stepX u X Y (2 * k)) then (f_M_stepX u X Y (2 * k)) else 1))), (7, .int (nI (2 * k))), (0, .ref hm), (1, .int x), (2, .int y), (5, .int bn), (6, .int (nI (k)))]) hx hb d_M_struckAbove_132 hl (by decide) rfl (fun ls hl => ?_)
                  refine lv_iload hx hb d_M_struckAbove_134 (lv_at hl 3 rfl) ?_
                  refine lv_istore (lv' := [(5, .int ((if 1 < (f_M_stepX u X Y (2 * k)) then (f_M_stepX u X Y (2 * k)) else 1))), (4, .int ((((Y (2 * k) - y) * (if 1 < (f_M_stepX u X Y (2 * k)) then (f_M_stepX u X Y (2 * k)) else 1)) + ((f_M_stepY u X Y (2 * k)) * (x - X (2 * k)))))), (3, .int (nI (k))), (9, .int ((((Y (2 * k) - y) * (if 1 < (f_M_stepX u X Y (2 * k)) then (f_M_stepX u X Y (2 * k)) else 1)) + ((f_M_stepY u X Y (2 * k)) * (x - X (2 * k)))))), (8, .int ((if 1 < (f_M_stepX u X Y (2 * k)) then (f_M_stepX u X Y (2 * k)) else 1))), (7, .int (nI (2 * k))), (0, .ref hm), (1, .int x), (2, .int y), (6, .int (nI (k)))]) hx hb d_M_struckAbove_136 hl (by decide) rfl (fun ls hl => ?_)
                  refine lv_iinc (v := nI (k + 1)) (lv' := [(6, .int (nI (k + 1))), (5, .int ((if 1 < (f_M_stepX u X Y (2 * k)) then (f_M_stepX u X Y (2 * k)) else 1))), (4, .int ((((Y (2 * k) - y) * (if 1 < (f_M_stepX u X Y (2 * k)) then (f_M_stepX u X Y (2 * k)) else 1)) + ((f_M_stepY u X Y (2 * k)) * (x - X (2 * k)))))), (3, .int (nI (k))), (9, .int ((((Y (2 * k) - y) * (if 1 < (f_M_stepX u X Y (2 * k)) then (f_M_stepX u X Y (2 * k)) else 1)) + ((f_M_stepY u X Y (2 * k)) * (x - X (2 * k)))))), (8, .int ((if 1 < (f_M_stepX u X Y (2 * k)) then (f_M_stepX u X Y (2 * k)) else 1))), (7, .int (nI (2 * k))), (0, .ref hm), (1, .int x), (2, .int y)]) hx hb d_M_struckAbove_138 hl (k := 9) rfl (nI_1 (k)) (by decide) rfl (fun ls hl => ?_)
                  refine lv_goto (tgt := 11) hx hb d_M_struckAbove_141 (by decide) ?_
                  exact ih (k + 1) (nI (k)) (((Y (2 * k) - y) * (if 1 < (f_M_stepX u X Y (2 * k)) then (f_M_stepX u X Y (2 * k)) else 1)) + ((f_M_stepY u X Y (2 * k)) * (x - X (2 * k)))) (if 1 < (f_M_stepX u X Y (2 * k)) then (f_M_stepX u X Y (2 * k)) else 1) (by omega)  ls (lv_sub hl [7, 8, 9, 3, 2, 1, 0] rfl) (hf.trans (show fb_M_struckAbove u X Y x y (fl_M_struckAbove u X Y x y n) k best br bn = (fl_M_struckAbove u X Y x y n (k + 1) (nI (k)) (((Y (2 * k) - y) * (if 1 < (f_M_stepX u X Y (2 * k)) then (f_M_stepX u X Y (2 * k)) else 1)) + ((f_M_stepY u X Y (2 * k)) * (x - X (2 * k)))) (if 1 < (f_M_stepX u X Y (2 * k)) then (f_M_stepX u X Y (2 * k)) else 1)) from by unfold fb_M_struckAbove; rw [if_pos c3a, if_neg c4a, if_pos c5a, if_neg c6a, if_pos c7a]))
                · have c7a : ¬ (best = (-1)) := c7
                  refine lv_iload hx hb d_M_struckAbove_114 (lv_at hl 0 rfl) ?_
                  refine lv_iload hx hb d_M_struckAbove_116 (lv_at hl 8 rfl) ?_
                  refine lv_imul hx hb d_M_struckAbove_118 ?_
                  refine lv_iload hx hb d_M_struckAbove_119 (lv_at hl 7 rfl) ?_
                  refine lv_iload hx hb d_M_struckAbove_121 (lv_at hl 1 rfl) ?_
                  refine lv_imul hx hb d_M_struckAbove_123 ?_
                  refine lv_icmp_ge (tgt := 138) hx hb d_M_struckAbove_124 (by decide) (fun c8 => ?_) (fun c8 => ?_)
                  · have c8a : (br * (if 1 < (f_M_stepX u X Y (2 * k)) then (f_M_stepX u X Y (2 * k)) else 1)) ≤ ((((Y (2 * k) - y) * (if 1 < (f_M_stepX u X Y (2 * k)) then (f_M_stepX u X Y (2 * k)) else 1)) + ((f_M_stepY u X Y (2 * k)) * (x - X (2 * k)))) * bn) := c8
                    refine lv_iinc (v := nI (k + 1)) (lv' := [(6, .int (nI (k + 1))), (9, .int ((((Y (2 * k) - y) * (if 1 < (f_M_stepX u X Y (2 * k)) then (f_M_stepX u X Y (2 * k)) else 1)) + ((f_M_stepY u X Y (2 * k)) * (x - X (2 * k)))))), (8, .int ((if 1 < (f_M_stepX u X Y (2 * k)) then (f_M_stepX u X Y (2 * k)) else 1))), (7, .int (nI (2 * k))), (0, .ref hm), (1, .int x), (2, .int y), (3, .int best), (4, .int br), (5, .int bn)]) hx hb d_M_struckAbove_138 hl (k := 9) rfl (nI_1 (k)) (by decide) rfl (fun ls hl => ?_)
                    refine lv_goto (tgt := 11) hx hb d_M_struckAbove_141 (by decide) ?_
                    exact ih (k + 1) best br bn (by omega)  ls (lv_sub hl [4, 5, 6, 7, 8, 9, 0] rfl) (hf.trans (show fb_M_struckAbove u X Y x y (fl_M_struckAbove u X Y x y n) k best br bn = (fl_M_struckAbove u X Y x y n (k + 1) best br bn) from by unfold fb_M_struckAbove; rw [if_pos c3a, if_neg c4a, if_pos c5a, if_neg c6a, if_neg c7a, if_pos c8a]))
                  · have c8a : ¬ ((br * (if 1 < (f_M_stepX u X Y (2 * k)) then (f_M_stepX u X Y (2 * k)) else 1)) ≤ ((((Y (2 * k) - y) * (if 1 < (f_M_stepX u X Y (2 * k)) then (f_M_stepX u X Y (2 * k)) else 1)) + ((f_M_stepY u X Y (2 * k)) * (x - X (2 * k)))) * bn)) := c8
                    refine lv_iload hx hb d_M_struckAbove_127 (lv_at hl 9 rfl) ?_
                    refine lv_istore_n (lv' := [(3, .int (nI (k))), (9, .int ((((Y (2 * k) - y) * (if 1 < (f_M_stepX u X Y (2 * k)) then (f_M_stepX u X Y (2 * k)) else 1)) + ((f_M_stepY u X Y (2 * k)) * (x - X (2 * k)))))), (8, .int ((if 1 < (f_M_stepX u X Y (2 * k)) then (f_M_stepX u X Y (2 * k)) else 1))), (7, .int (nI (2 * k))), (0, .ref hm), (1, .int x), (2, .int y), (4, .int br), (5, .int bn), (6, .int (nI (k)))]) hx hb d_M_struckAbove_129 rfl hl (by decide) rfl (fun ls hl => ?_)
                    refine lv_iload hx hb d_M_struckAbove_130 (lv_at hl 1 rfl) ?_
                    refine lv_istore (lv' := [(4, .int ((((Y (2 * k) - y) * (if 1 < (f_M_stepX u X Y (2 * k)) then (f_M_stepX u X Y (2 * k)) else 1)) + ((f_M_stepY u X Y (2 * k)) * (x - X (2 * k)))))), (3, .int (nI (k))), (9, .int ((((Y (2 * k) - y) * (if 1 < (f_M_stepX u X Y (2 * k)) then (f_M_stepX u X Y (2 * k)) else 1)) + ((f_M_stepY u X Y (2 * k)) * (x - X (2 * k)))))), (8, .int ((if 1 < (f_M_stepX u X Y (2 * k)) then (f_M_stepX u X Y (2 * k)) else 1))), (7, .int (nI (2 * k))), (0, .ref hm), (1, .int x), (2, .int y), (5, .int bn), (6, .int (nI (k)))]) hx hb d_M_struckAbove_132 hl (by decide) rfl (fun ls hl => ?_)
                    refine lv_iload hx hb d_M_struckAbove_134 (lv_at hl 3 rfl) ?_
                    refine lv_istore (lv' := [(5, .int ((if 1 < (f_M_stepX u X Y (2 * k)) then (f_M_stepX u X Y (2 * k)) else 1))), (4, .int ((((Y (2 * k) - y) * (if 1 < (f_M_stepX u X Y (2 * k)) then (f_M_stepX u X Y (2 * k)) else 1)) + ((f_M_stepY u X Y (2 * k)) * (x - X (2 * k)))))), (3, .int (nI (k))), (9, .int ((((Y (2 * k) - y) * (if 1 < (f_M_stepX u X Y (2 * k)) then (f_M_stepX u X Y (2 * k)) else 1)) + ((f_M_stepY u X Y (2 * k)) * (x - X (2 * k)))))), (8, .int ((if 1 < (f_M_stepX u X Y (2 * k)) then (f_M_stepX u X Y (2 * k)) else 1))), (7, .int (nI (2 * k))), (0, .ref hm), (1, .int x), (2, .int y), (6, .int (nI (k)))]) hx hb d_M_struckAbove_136 hl (by decide) rfl (fun ls hl => ?_)
                    refine lv_iinc (v := nI (k + 1)) (lv' := [(6, .int (nI (k + 1))), (5, .int ((if 1 < (f_M_stepX u X Y (2 * k)) then (f_M_stepX u X Y (2 * k)) else 1))), (4, .int ((((Y (2 * k) - y) * (if 1 < (f_M_stepX u X Y (2 * k)) then (f_M_stepX u X Y (2 * k)) else 1)) + ((f_M_stepY u X Y (2 * k)) * (x - X (2 * k)))))), (3, .int (nI (k))), (9, .int ((((Y (2 * k) - y) * (if 1 < (f_M_stepX u X Y (2 * k)) then (f_M_stepX u X Y (2 * k)) else 1)) + ((f_M_stepY u X Y (2 * k)) * (x - X (2 * k)))))), (8, .int ((if 1 < (f_M_stepX u X Y (2 * k)) then (f_M_stepX u X Y (2 * k)) else 1))), (7, .int (nI (2 * k))), (0, .ref hm), (1, .int x), (2, .int y)]) hx hb d_M_struckAbove_138 hl (k := 9) rfl (nI_1 (k)) (by decide) rfl (fun ls hl => ?_)
                    refine lv_goto (tgt := 11) hx hb d_M_struckAbove_141 (by decide) ?_
                    exact ih (k + 1) (nI (k)) (((Y (2 * k) - y) * (if 1 < (f_M_stepX u X Y (2 * k)) then (f_M_stepX u X Y (2 * k)) else 1)) + ((f_M_stepY u X Y (2 * k)) * (x - X (2 * k)))) (if 1 < (f_M_stepX u X Y (2 * k)) then (f_M_stepX u X Y (2 * k)) else 1) (by omega)  ls (lv_sub hl [7, 8, 9, 3, 2, 1, 0] rfl) (hf.trans (show fb_M_struckAbove u X Y x y (fl_M_struckAbove u X Y x y n) k best br bn = (fl_M_struckAbove u X Y x y n (k + 1) (nI (k)) (((Y (2 * k) - y) * (if 1 < (f_M_stepX u X Y (2 * k)) then (f_M_stepX u X Y (2 * k)) else 1)) + ((f_M_stepY u X Y (2 * k)) * (x - X (2 * k)))) (if 1 < (f_M_stepX u X Y (2 * k)) then (f_M_stepX u X Y (2 * k)) else 1)) from by unfold fb_M_struckAbove; rw [if_pos c3a, if_neg c4a, if_pos c5a, if_neg c6a, if_neg c7a, if_neg c8a]))
            · have c5a : ¬ (x ≤ X ((2 * k) + 1)) := c5
              refine lv_goto (tgt := 138) hx hb d_M_struckAbove_58 (by decide) ?_
              refine lv_iinc (v := nI (k + 1)) (lv' := [(6, .int (nI (k + 1))), (7, .int (nI (2 * k))), (0, .ref hm), (1, .int x), (2, .int y), (3, .int best), (4, .int br), (5, .int bn)]) hx hb d_M_struckAbove_138 hl (k := 7) rfl (nI_1 (k)) (by decide) rfl (fun ls hl => ?_)
              refine lv_goto (tgt := 11) hx hb d_M_struckAbove_141 (by decide) ?_
              exact ih (k + 1) best br bn (by omega)  ls (lv_sub hl [2, 3, 4, 5, 6, 7, 0] rfl) (hf.trans (show fb_M_struckAbove u X Y x y (fl_M_struckAbove u X Y x y n) k best br bn = (fl_M_struckAbove u X Y x y n (k + 1) best br bn) from by unfold fb_M_struckAbove; rw [if_pos c3a, if_neg c4a, if_neg c5a]))
  refine lv_iconst (v := (-1)) hx hb d_M_struckAbove_0 (by decide) ?_
  refine lv_istore_n (lv' := [(3, .int ((-1))), (0, .ref hm), (1, .int x), (2, .int y)]) hx hb d_M_struckAbove_1 rfl hl (by decide) rfl (fun ls hl => ?_)
  refine lv_iconst (v := 0) hx hb d_M_struckAbove_2 (by decide) ?_
  refine lv_istore (lv' := [(4, .int 0), (3, .int ((-1))), (0, .ref hm), (1, .int x), (2, .int y)]) hx hb d_M_struckAbove_3 hl (by decide) rfl (fun ls hl => ?_)
  refine lv_iconst (v := 1) hx hb d_M_struckAbove_5 (by decide) ?_
  refine lv_istore (lv' := [(5, .int 1), (4, .int 0), (3, .int ((-1))), (0, .ref hm), (1, .int x), (2, .int y)]) hx hb d_M_struckAbove_6 hl (by decide) rfl (fun ls hl => ?_)
  refine lv_iconst (v := 0) hx hb d_M_struckAbove_8 (by decide) ?_
  refine lv_istore (lv' := [(6, .int 0), (5, .int 1), (4, .int 0), (3, .int ((-1))), (0, .ref hm), (1, .int x), (2, .int y)]) hx hb d_M_struckAbove_9 hl (by decide) rfl (fun ls hl => ?_)
  exact key 20 0 (-1) 0 1 (by omega)  ls (lv_sub hl [4, 5, 6, 3, 2, 1, 0] rfl) (show f_M_struckAbove u X Y x y = (fl_M_struckAbove u X Y x y 20 0 (-1) 0 1) from rfl)
def f_M_comesSooner (u : Nat → Bool) (X : Nat → Int32) (Y : Nat → Int32) (a : Nat) (b : Nat) (dx : Int32) (dy : Int32) : Bool := if (f_M_turnRank dx dy (f_M_stepX u X Y a) (f_M_stepY u X Y a)) = (f_M_turnRank dx dy (f_M_stepX u X Y b) (f_M_stepY u X Y b)) then (if (f_M_cross (f_M_stepX u X Y a) (f_M_stepY u X Y a) (f_M_stepX u X Y b) (f_M_stepY u X Y b)) ≤ 0 then false else true) else (if (f_M_turnRank dx dy (f_M_stepX u X Y b) (f_M_stepY u X Y b)) ≤ (f_M_turnRank dx dy (f_M_stepX u X Y a) (f_M_stepY u X Y a)) then false else true)
theorem i_M_comesSooner : inV y_M_comesSooner b_M_comesSooner 7 (some .boolean) 4 := ⟨kM_y_M_comesSooner, kV_y_M_comesSooner, kI_M, kY_y_M_comesSooner, by decide +kernel⟩
set_option maxHeartbeats 4000000 in
set_option maxRecDepth 100000 in
theorem c_M_comesSooner (l : Launch) (D : va_G) (hm hu hxs hys : Nat) (cZ cI : ClassId) (u : Nat → Bool) (X Y : Nat → Int32) (a : Nat) (b : Nat) (dx : Int32) (dy : Int32) (ha : a < 40) (hb : b < 40)  : PM l y_M_comesSooner b_M_comesSooner 7 (some .boolean) 1 24 D (mapW hm hu hxs hys cZ cI u X Y) [(cZ, .boolean), (cI, .int)] [.ref hm, .int (nI (a)), .int (nI (b)), .int dx, .int dy] (b2i (f_M_comesSooner u X Y a b dx dy)) := by
  refine pMet rfl (fun p e s m below meth c S hr hlk hP hK ls hl => ?_) (Nat.le_of_ble_eq_true rfl)
  have hx := S.1
  have hb := S.2.1
  have hl : lv_has ls 7 [(0, .ref hm), (1, .int (nI (a))), (2, .int (nI (b))), (3, .int dx), (4, .int dy)] := hl
  refine lv_iload_n hx hb d_M_comesSooner_0 rfl (lv_at hl 3 rfl) ?_
  refine lv_iload hx hb d_M_comesSooner_1 (lv_at hl 4 rfl) ?_
  refine lv_aload_n hx hb d_M_comesSooner_3 rfl (lv_at hl 0 rfl) ?_
  refine lv_iload_n hx hb d_M_comesSooner_4 rfl (lv_at hl 1 rfl) ?_
  refine rcallV (rest := [.int dy, .int dx]) (v := (f_M_stepX u X Y a)) S [.int (nI (a))] hK hP [0, 1, 2, 3] rfl [0, 1] rfl (c_M_stepX l D hm hu hxs hys cZ cI u X Y a (by omega)) i_M_stepX kL_M_46 ⟨Nat.le_of_ble_eq_true rfl, Nat.le_of_ble_eq_true rfl⟩ (by exact ⟨Nat.zero_le _, Nat.zero_le _⟩) (q0 := 0) (ci := 1) rfl rfl rfl hl.1 rfl (Nat.le_of_ble_eq_true rfl) d_M_comesSooner_5 ?_
  refine lv_aload_n hx hb d_M_comesSooner_8 rfl (lv_at hl 0 rfl) ?_
  refine lv_iload_n hx hb d_M_comesSooner_9 rfl (lv_at hl 1 rfl) ?_
  refine rcallV (rest := [.int ((f_M_stepX u X Y a)), .int dy, .int dx]) (v := (f_M_stepY u X Y a)) S [.int (nI (a))] hK hP [0, 1, 2, 3] rfl [0, 1] rfl (c_M_stepY l D hm hu hxs hys cZ cI u X Y a (by omega)) i_M_stepY kL_M_50 ⟨Nat.le_of_ble_eq_true rfl, Nat.le_of_ble_eq_true rfl⟩ (by exact ⟨Nat.zero_le _, Nat.zero_le _⟩) (q0 := 0) (ci := 1) rfl rfl rfl hl.1 rfl (Nat.le_of_ble_eq_true rfl) d_M_comesSooner_10 ?_
  refine rcallS (rest := []) (v := (f_M_turnRank dx dy (f_M_stepX u X Y a) (f_M_stepY u X Y a))) S [.int dx, .int dy, .int ((f_M_stepX u X Y a)), .int ((f_M_stepY u X Y a))] hK hP [] rfl [] rfl (c_M_turnRank l D  dx dy (f_M_stepX u X Y a) (f_M_stepY u X Y a) ) i_M_turnRank rfl kL_M_73 ⟨Nat.le_of_ble_eq_true rfl, Nat.le_of_ble_eq_true rfl⟩ (by exact ⟨Nat.zero_le _, Nat.zero_le _⟩) hl.1 rfl (Nat.le_of_ble_eq_true rfl) d_M_comesSooner_13 ?_
  refine lv_istore (lv' := [(5, .int ((f_M_turnRank dx dy (f_M_stepX u X Y a) (f_M_stepY u X Y a)))), (0, .ref hm), (1, .int (nI (a))), (2, .int (nI (b))), (3, .int dx), (4, .int dy)]) hx hb d_M_comesSooner_16 hl (by decide) rfl (fun ls hl => ?_)
  refine lv_iload_n hx hb d_M_comesSooner_18 rfl (lv_at hl 4 rfl) ?_
  refine lv_iload hx hb d_M_comesSooner_19 (lv_at hl 5 rfl) ?_
  refine lv_aload_n hx hb d_M_comesSooner_21 rfl (lv_at hl 1 rfl) ?_
  refine lv_iload_n hx hb d_M_comesSooner_22 rfl (lv_at hl 3 rfl) ?_
  refine rcallV (rest := [.int dy, .int dx]) (v := (f_M_stepX u X Y b)) S [.int (nI (b))] hK hP [0, 1, 2, 3] rfl [0, 1] rfl (c_M_stepX l D hm hu hxs hys cZ cI u X Y b (by omega)) i_M_stepX kL_M_46 ⟨Nat.le_of_ble_eq_true rfl, Nat.le_of_ble_eq_true rfl⟩ (by exact ⟨Nat.zero_le _, Nat.zero_le _⟩) (q0 := 0) (ci := 1) rfl rfl rfl hl.1 rfl (Nat.le_of_ble_eq_true rfl) d_M_comesSooner_23 ?_
  refine lv_aload_n hx hb d_M_comesSooner_26 rfl (lv_at hl 1 rfl) ?_
  refine lv_iload_n hx hb d_M_comesSooner_27 rfl (lv_at hl 3 rfl) ?_
  refine rcallV (rest := [.int ((f_M_stepX u X Y b)), .int dy, .int dx]) (v := (f_M_stepY u X Y b)) S [.int (nI (b))] hK hP [0, 1, 2, 3] rfl [0, 1] rfl (c_M_stepY l D hm hu hxs hys cZ cI u X Y b (by omega)) i_M_stepY kL_M_50 ⟨Nat.le_of_ble_eq_true rfl, Nat.le_of_ble_eq_true rfl⟩ (by exact ⟨Nat.zero_le _, Nat.zero_le _⟩) (q0 := 0) (ci := 1) rfl rfl rfl hl.1 rfl (Nat.le_of_ble_eq_true rfl) d_M_comesSooner_28 ?_
  refine rcallS (rest := []) (v := (f_M_turnRank dx dy (f_M_stepX u X Y b) (f_M_stepY u X Y b))) S [.int dx, .int dy, .int ((f_M_stepX u X Y b)), .int ((f_M_stepY u X Y b))] hK hP [] rfl [] rfl (c_M_turnRank l D  dx dy (f_M_stepX u X Y b) (f_M_stepY u X Y b) ) i_M_turnRank rfl kL_M_73 ⟨Nat.le_of_ble_eq_true rfl, Nat.le_of_ble_eq_true rfl⟩ (by exact ⟨Nat.zero_le _, Nat.zero_le _⟩) hl.1 rfl (Nat.le_of_ble_eq_true rfl) d_M_comesSooner_31 ?_
  refine lv_istore (lv' := [(6, .int ((f_M_turnRank dx dy (f_M_stepX u X Y b) (f_M_stepY u X Y b)))), (5, .int ((f_M_turnRank dx dy (f_M_stepX u X Y a) (f_M_stepY u X Y a)))), (0, .ref hm), (1, .int (nI (a))), (2, .int (nI (b))), (3, .int dx), (4, .int dy)]) hx hb d_M_comesSooner_34 hl (by decide) rfl (fun ls hl => ?_)
  refine lv_iload hx hb d_M_comesSooner_36 (lv_at hl 1 rfl) ?_
  refine lv_iload hx hb d_M_comesSooner_38 (lv_at hl 0 rfl) ?_
  refine lv_icmp_eq (tgt := 56) hx hb d_M_comesSooner_40 (by decide) (fun c1 => ?_) (fun c1 => ?_)
  · have c1a : (f_M_turnRank dx dy (f_M_stepX u X Y a) (f_M_stepY u X Y a)) = (f_M_turnRank dx dy (f_M_stepX u X Y b) (f_M_stepY u X Y b)) := c1
    refine lv_aload_n hx hb d_M_comesSooner_56 rfl (lv_at hl 2 rfl) ?_
    refine lv_iload_n hx hb d_M_comesSooner_57 rfl (lv_at hl 3 rfl) ?_
    refine rcallV (rest := []) (v := (f_M_stepX u X Y a)) S [.int (nI (a))] hK hP [0, 1, 2, 3] rfl [0, 1] rfl (c_M_stepX l D hm hu hxs hys cZ cI u X Y a (by omega)) i_M_stepX kL_M_46 ⟨Nat.le_of_ble_eq_true rfl, Nat.le_of_ble_eq_true rfl⟩ (by exact ⟨Nat.zero_le _, Nat.zero_le _⟩) (q0 := 0) (ci := 1) rfl rfl rfl hl.1 rfl (Nat.le_of_ble_eq_true rfl) d_M_comesSooner_58 ?_
    refine lv_aload_n hx hb d_M_comesSooner_61 rfl (lv_at hl 2 rfl) ?_
    refine lv_iload_n hx hb d_M_comesSooner_62 rfl (lv_at hl 3 rfl) ?_
    refine rcallV (rest := [.int ((f_M_stepX u X Y a))]) (v := (f_M_stepY u X Y a)) S [.int (nI (a))] hK hP [0, 1, 2, 3] rfl [0, 1] rfl (c_M_stepY l D hm hu hxs hys cZ cI u X Y a (by omega)) i_M_stepY kL_M_50 ⟨Nat.le_of_ble_eq_true rfl, Nat.le_of_ble_eq_true rfl⟩ (by exact ⟨Nat.zero_le _, Nat.zero_le _⟩) (q0 := 0) (ci := 1) rfl rfl rfl hl.1 rfl (Nat.le_of_ble_eq_true rfl) d_M_comesSooner_63 ?_
    refine lv_aload_n hx hb d_M_comesSooner_66 rfl (lv_at hl 2 rfl) ?_
    refine lv_iload_n hx hb d_M_comesSooner_67 rfl (lv_at hl 4 rfl) ?_
    refine rcallV (rest := [.int ((f_M_stepY u X Y a)), .int ((f_M_stepX u X Y a))]) (v := (f_M_stepX u X Y b)) S [.int (nI (b))] hK hP [0, 1, 2, 3] rfl [0, 1] rfl (c_M_stepX l D hm hu hxs hys cZ cI u X Y b (by omega)) i_M_stepX kL_M_46 ⟨Nat.le_of_ble_eq_true rfl, Nat.le_of_ble_eq_true rfl⟩ (by exact ⟨Nat.zero_le _, Nat.zero_le _⟩) (q0 := 0) (ci := 1) rfl rfl rfl hl.1 rfl (Nat.le_of_ble_eq_true rfl) d_M_comesSooner_68 ?_
    refine lv_aload_n hx hb d_M_comesSooner_71 rfl (lv_at hl 2 rfl) ?_
    refine lv_iload_n hx hb d_M_comesSooner_72 rfl (lv_at hl 4 rfl) ?_
    refine rcallV (rest := [.int ((f_M_stepX u X Y b)), .int ((f_M_stepY u X Y a)), .int ((f_M_stepX u X Y a))]) (v := (f_M_stepY u X Y b)) S [.int (nI (b))] hK hP [0, 1, 2, 3] rfl [0, 1] rfl (c_M_stepY l D hm hu hxs hys cZ cI u X Y b (by omega)) i_M_stepY kL_M_50 ⟨Nat.le_of_ble_eq_true rfl, Nat.le_of_ble_eq_true rfl⟩ (by exact ⟨Nat.zero_le _, Nat.zero_le _⟩) (q0 := 0) (ci := 1) rfl rfl rfl hl.1 rfl (Nat.le_of_ble_eq_true rfl) d_M_comesSooner_73 ?_
    refine rcallS (rest := []) (v := (f_M_cross (f_M_stepX u X Y a) (f_M_stepY u X Y a) (f_M_stepX u X Y b) (f_M_stepY u X Y b))) S [.int ((f_M_stepX u X Y a)), .int ((f_M_stepY u X Y a)), .int ((f_M_stepX u X Y b)), .int ((f_M_stepY u X Y b))] hK hP [] rfl [] rfl (c_M_cross l D  (f_M_stepX u X Y a) (f_M_stepY u X Y a) (f_M_stepX u X Y b) (f_M_stepY u X Y b) ) i_M_cross rfl kL_M_53 ⟨Nat.le_of_ble_eq_true rfl, Nat.le_of_ble_eq_true rfl⟩ (by exact ⟨Nat.zero_le _, Nat.zero_le _⟩) hl.1 rfl (Nat.le_of_ble_eq_true rfl) d_M_comesSooner_76 ?_
    refine lv_if_le (tgt := 86) hx hb d_M_comesSooner_79 (by decide) (fun c2 => ?_) (fun c2 => ?_)
    · have c2a : (f_M_cross (f_M_stepX u X Y a) (f_M_stepY u X Y a) (f_M_stepX u X Y b) (f_M_stepY u X Y b)) ≤ 0 := c2
      refine lv_iconst (v := 0) hx hb d_M_comesSooner_86 (by decide) ?_
      exact rretZ S hr hlk (v := false) (show f_M_comesSooner u X Y a b dx dy = false from by unfold f_M_comesSooner; rw [if_pos c1a, if_pos c2a]).symm d_M_comesSooner_87
    · have c2a : ¬ ((f_M_cross (f_M_stepX u X Y a) (f_M_stepY u X Y a) (f_M_stepX u X Y b) (f_M_stepY u X Y b)) ≤ 0) := c2
      refine lv_iconst (v := 1) hx hb d_M_comesSooner_82 (by decide) ?_
      refine lv_goto (tgt := 87) hx hb d_M_comesSooner_83 (by decide) ?_
      exact rretZ S hr hlk (v := true) (show f_M_comesSooner u X Y a b dx dy = true from by unfold f_M_comesSooner; rw [if_pos c1a, if_neg c2a]).symm d_M_comesSooner_87
  · have c1a : ¬ ((f_M_turnRank dx dy (f_M_stepX u X Y a) (f_M_stepY u X Y a)) = (f_M_turnRank dx dy (f_M_stepX u X Y b) (f_M_stepY u X Y b))) := c1
    refine lv_iload hx hb d_M_comesSooner_43 (lv_at hl 1 rfl) ?_
    refine lv_iload hx hb d_M_comesSooner_45 (lv_at hl 0 rfl) ?_
    refine lv_icmp_ge (tgt := 54) hx hb d_M_comesSooner_47 (by decide) (fun c3 => ?_) (fun c3 => ?_)
    · have c3a : (f_M_turnRank dx dy (f_M_stepX u X Y b) (f_M_stepY u X Y b)) ≤ (f_M_turnRank dx dy (f_M_stepX u X Y a) (f_M_stepY u X Y a)) := c3
      refine lv_iconst (v := 0) hx hb d_M_comesSooner_54 (by decide) ?_
      exact rretZ S hr hlk (v := false) (show f_M_comesSooner u X Y a b dx dy = false from by unfold f_M_comesSooner; rw [if_neg c1a, if_pos c3a]).symm d_M_comesSooner_55
    · have c3a : ¬ ((f_M_turnRank dx dy (f_M_stepX u X Y b) (f_M_stepY u X Y b)) ≤ (f_M_turnRank dx dy (f_M_stepX u X Y a) (f_M_stepY u X Y a))) := c3
      refine lv_iconst (v := 1) hx hb d_M_comesSooner_50 (by decide) ?_
      refine lv_goto (tgt := 55) hx hb d_M_comesSooner_51 (by decide) ?_
      exact rretZ S hr hlk (v := true) (show f_M_comesSooner u X Y a b dx dy = true from by unfold f_M_comesSooner; rw [if_neg c1a, if_neg c3a]).symm d_M_comesSooner_55
def fx_M_sideFacing (u : Nat → Bool) (X : Nat → Int32) (Y : Nat → Int32) (w : Nat) (dx : Int32) (dy : Int32) (a : Nat) (fst : Nat) : Nat := tw fst
def fb_M_sideFacing (u : Nat → Bool) (X : Nat → Int32) (Y : Nat → Int32) (w : Nat) (dx : Int32) (dy : Int32) (rec : Nat → Nat → Nat) (a : Nat) (fst : Nat) : Nat := if u (a / 2) = true then (if f_M_sameTail u X Y a w = true then (if f_M_comesSooner u X Y a fst dx dy = true then (rec (a + 1) a) else (rec (a + 1) fst)) else (rec (a + 1) fst)) else (rec (a + 1) fst)
def fl_M_sideFacing (u : Nat → Bool) (X : Nat → Int32) (Y : Nat → Int32) (w : Nat) (dx : Int32) (dy : Int32) : Nat → Nat → Nat → Nat
  | 0, a, fst => fx_M_sideFacing u X Y w dx dy a fst
  | n + 1, a, fst => fb_M_sideFacing u X Y w dx dy (fl_M_sideFacing u X Y w dx dy n) a fst
def f_M_sideFacing (u : Nat → Bool) (X : Nat → Int32) (Y : Nat → Int32) (w : Nat) (dx : Int32) (dy : Int32) : Nat := fl_M_sideFacing u X Y w dx dy 40 0 w
theorem i_M_sideFacing : inV y_M_sideFacing b_M_sideFacing 6 (some .int) 3 := ⟨kM_y_M_sideFacing, kV_y_M_sideFacing, kI_M, kY_y_M_sideFacing, by decide +kernel⟩
set_option maxHeartbeats 4000000 in
set_option maxRecDepth 100000 in
theorem c_M_sideFacing (l : Launch) (D : va_G) (hm hu hxs hys : Nat) (cZ cI : ClassId) (u : Nat → Bool) (X Y : Nat → Int32) (w : Nat) (dx : Int32) (dy : Int32) (hw : w < 40)  : PM l y_M_sideFacing b_M_sideFacing 6 (some .int) 2 50 D (mapW hm hu hxs hys cZ cI u X Y) [(cZ, .boolean), (cI, .int)] [.ref hm, .int (nI (w)), .int dx, .int dy] (nI (f_M_sideFacing u X Y w dx dy)) := by
  refine pMet rfl (fun p e s m below meth c S hr hlk hP hK ls hl => ?_) (Nat.le_of_ble_eq_true rfl)
  have hx := S.1
  have hb := S.2.1
  have hl : lv_has ls 6 [(0, .ref hm), (1, .int (nI (w))), (2, .int dx), (3, .int dy)] := hl
  have key : ∀ (n : Nat) (a : Nat) (fst : Nat) (hk : a + n = 40) (hfi : fst < 40) (ls : Array Slot) (hl : lv_has ls 6 [(0, .ref hm), (1, .int (nI (w))), (2, .int dx), (3, .int dy), (4, .int (nI (fst))), (5, .int (nI (a)))]) (hf : f_M_sideFacing u X Y w dx dy = fl_M_sideFacing u X Y w dx dy n a fst), W p l e { frames := 2, cells := 0, slots := 0, locals := 50 } s m [.ref hm, .int (nI (w)), .int dx, .int dy].toArray below meth c s.heap [] 0 0 (MQ below (pQ (nI (f_M_sideFacing u X Y w dx dy))) [.ref hm, .int (nI (w)), .int dx, .int dy].toArray s 0 0 (fun _ => False)) (F0 m 6 ls []) := by
    intro n
    induction n with
    | zero =>
      intro a fst hk hfi ls hl hf
      refine lv_iload hx hb d_M_sideFacing_6 (lv_at hl 5 rfl) ?_
      refine lv_bipush (v := 40) hx hb d_M_sideFacing_8 (by decide) ?_
      refine lv_icmp_ge (tgt := 58) hx hb d_M_sideFacing_10 (by decide) (fun c1 => ?_) (fun c1 => ?_)
      · have c1a : 40 ≤ a := (nI_leI (a := 40) (b := a) (by decide) (by omega)).mp c1
        refine lv_iload hx hb d_M_sideFacing_58 (lv_at hl 4 rfl) ?_
        refine lv_iconst (v := 1) hx hb d_M_sideFacing_60 (by decide) ?_
        refine lv_ixor hx hb d_M_sideFacing_61 ?_
        refine rtop (y := nI (tw fst)) (nI_xor1 (fst) (by omega)) ?_
        exact rret S hr hlk (v := nI (tw fst)) (congrArg nI (hf.trans (show fx_M_sideFacing u X Y w dx dy a fst = (tw fst) from rfl)).symm) d_M_sideFacing_62
      · have c1a : ¬ (40 ≤ a) := fun h => c1 ((nI_leI (a := 40) (b := a) (by decide) (by omega)).mpr h)
        omega
    | succ n ih =>
      intro a fst hk hfi ls hl hf
      refine lv_iload hx hb d_M_sideFacing_6 (lv_at hl 5 rfl) ?_
      refine lv_bipush (v := 40) hx hb d_M_sideFacing_8 (by decide) ?_
      refine lv_icmp_ge (tgt := 58) hx hb d_M_sideFacing_10 (by decide) (fun c2 => ?_) (fun c2 => ?_)
      · have c2a : 40 ≤ a := (nI_leI (a := 40) (b := a) (by decide) (by omega)).mp c2
        omega
      · have c2a : ¬ (40 ≤ a) := fun h => c2 ((nI_leI (a := 40) (b := a) (by decide) (by omega)).mpr h)
        refine lv_aload_n hx hb d_M_sideFacing_13 rfl (lv_at hl 0 rfl) ?_
        refine rget S hK hP 0 rfl rfl in_M 0 (by decide) kF_M_9 rfl d_M_sideFacing_14 ?_
        refine lv_iload hx hb d_M_sideFacing_17 (lv_at hl 5 rfl) ?_
        refine lv_iconst (v := 2) hx hb d_M_sideFacing_19 (by decide) ?_
        refine lv_idiv hx hb d_M_sideFacing_20 (by decide) ?_
        refine rtop (y := nI (a / 2)) (pk_div (a := a) (d := 2) (by omega) (by decide) (by decide)) ?_
        refine rzald (j := a / 2) S hK hP 1 0 rfl rfl (by omega) (by first | decide | omega) d_M_sideFacing_21 ?_
        refine lv_if_eq (tgt := 52) hx hb d_M_sideFacing_22 (by decide) (fun c3 => ?_) (fun c3 => ?_)
        · have c3a : ¬ (u (a / 2) = true) := b2n (b2i_eq0.mp c3)
          refine lv_iinc (v := nI (a + 1)) (lv' := [(5, .int (nI (a + 1))), (0, .ref hm), (1, .int (nI (w))), (2, .int dx), (3, .int dy), (4, .int (nI (fst)))]) hx hb d_M_sideFacing_52 hl (k := 5) rfl (nI_1 (a)) (by decide) rfl (fun ls hl => ?_)
          refine lv_goto (tgt := 6) hx hb d_M_sideFacing_55 (by decide) ?_
          exact ih (a + 1) fst (by omega) (by omega) ls (lv_sub hl [1, 2, 3, 4, 5, 0] rfl) (hf.trans (show fb_M_sideFacing u X Y w dx dy (fl_M_sideFacing u X Y w dx dy n) a fst = (fl_M_sideFacing u X Y w dx dy n (a + 1) fst) from by unfold fb_M_sideFacing; rw [if_neg c3a]))
        · have c3a : u (a / 2) = true := b2i_ne0.mp c3
          refine lv_aload_n hx hb d_M_sideFacing_25 rfl (lv_at hl 0 rfl) ?_
          refine lv_iload hx hb d_M_sideFacing_26 (lv_at hl 5 rfl) ?_
          refine lv_iload_n hx hb d_M_sideFacing_28 rfl (lv_at hl 1 rfl) ?_
          refine rcallV (rest := []) (v := b2i (f_M_sameTail u X Y a w)) S [.int (nI (a)), .int (nI (w))] hK hP [0, 1, 2, 3] rfl [0, 1] rfl (c_M_sameTail l D hm hu hxs hys cZ cI u X Y a w (by omega) (by omega)) i_M_sameTail kL_M_35 ⟨Nat.le_of_ble_eq_true rfl, Nat.le_of_ble_eq_true rfl⟩ (by exact ⟨Nat.zero_le _, Nat.zero_le _⟩) (q0 := 0) (ci := 1) rfl rfl rfl hl.1 rfl (Nat.le_of_ble_eq_true rfl) d_M_sideFacing_29 ?_
          refine lv_if_eq (tgt := 52) hx hb d_M_sideFacing_32 (by decide) (fun c4 => ?_) (fun c4 => ?_)
          · have c4a : ¬ (f_M_sameTail u X Y a w = true) := b2n (b2i_eq0.mp c4)
            refine lv_iinc (v := nI (a + 1)) (lv' := [(5, .int (nI (a + 1))), (0, .ref hm), (1, .int (nI (w))), (2, .int dx), (3, .int dy), (4, .int (nI (fst)))]) hx hb d_M_sideFacing_52 hl (k := 5) rfl (nI_1 (a)) (by decide) rfl (fun ls hl => ?_)
            refine lv_goto (tgt := 6) hx hb d_M_sideFacing_55 (by decide) ?_
            exact ih (a + 1) fst (by omega) (by omega) ls (lv_sub hl [1, 2, 3, 4, 5, 0] rfl) (hf.trans (show fb_M_sideFacing u X Y w dx dy (fl_M_sideFacing u X Y w dx dy n) a fst = (fl_M_sideFacing u X Y w dx dy n (a + 1) fst) from by unfold fb_M_sideFacing; rw [if_pos c3a, if_neg c4a]))
          · have c4a : f_M_sameTail u X Y a w = true := b2i_ne0.mp c4
            refine lv_aload_n hx hb d_M_sideFacing_35 rfl (lv_at hl 0 rfl) ?_
            refine lv_iload hx hb d_M_sideFacing_36 (lv_at hl 5 rfl) ?_
            refine lv_iload hx hb d_M_sideFacing_38 (lv_at hl 4 rfl) ?_
            refine lv_iload_n hx hb d_M_sideFacing_40 rfl (lv_at hl 2 rfl) ?_
            refine lv_iload_n hx hb d_M_sideFacing_41 rfl (lv_at hl 3 rfl) ?_
            refine rcallV (rest := []) (v := b2i (f_M_comesSooner u X Y a fst dx dy)) S [.int (nI (a)), .int (nI (fst)), .int dx, .int dy] hK hP [0, 1, 2, 3] rfl [0, 1] rfl (c_M_comesSooner l D hm hu hxs hys cZ cI u X Y a fst dx dy (by omega) (by omega)) i_M_comesSooner kL_M_69 ⟨Nat.le_of_ble_eq_true rfl, Nat.le_of_ble_eq_true rfl⟩ (by exact ⟨Nat.zero_le _, Nat.zero_le _⟩) (q0 := 0) (ci := 1) rfl rfl rfl hl.1 rfl (Nat.le_of_ble_eq_true rfl) d_M_sideFacing_42 ?_
            refine lv_if_eq (tgt := 52) hx hb d_M_sideFacing_45 (by decide) (fun c5 => ?_) (fun c5 => ?_)
            · have c5a : ¬ (f_M_comesSooner u X Y a fst dx dy = true) := b2n (b2i_eq0.mp c5)
              refine lv_iinc (v := nI (a + 1)) (lv' := [(5, .int (nI (a + 1))), (0, .ref hm), (1, .int (nI (w))), (2, .int dx), (3, .int dy), (4, .int (nI (fst)))]) hx hb d_M_sideFacing_52 hl (k := 5) rfl (nI_1 (a)) (by decide) rfl (fun ls hl => ?_)
              refine lv_goto (tgt := 6) hx hb d_M_sideFacing_55 (by decide) ?_
              exact ih (a + 1) fst (by omega) (by omega) ls (lv_sub hl [1, 2, 3, 4, 5, 0] rfl) (hf.trans (show fb_M_sideFacing u X Y w dx dy (fl_M_sideFacing u X Y w dx dy n) a fst = (fl_M_sideFacing u X Y w dx dy n (a + 1) fst) from by unfold fb_M_sideFacing; rw [if_pos c3a, if_pos c4a, if_neg c5a]))
            · have c5a : f_M_comesSooner u X Y a fst dx dy = true := b2i_ne0.mp c5
              refine lv_iload hx hb d_M_sideFacing_48 (lv_at hl 5 rfl) ?_
              refine lv_istore (lv' := [(4, .int (nI (a))), (0, .ref hm), (1, .int (nI (w))), (2, .int dx), (3, .int dy), (5, .int (nI (a)))]) hx hb d_M_sideFacing_50 hl (by decide) rfl (fun ls hl => ?_)
              refine lv_iinc (v := nI (a + 1)) (lv' := [(5, .int (nI (a + 1))), (4, .int (nI (a))), (0, .ref hm), (1, .int (nI (w))), (2, .int dx), (3, .int dy)]) hx hb d_M_sideFacing_52 hl (k := 5) rfl (nI_1 (a)) (by decide) rfl (fun ls hl => ?_)
              refine lv_goto (tgt := 6) hx hb d_M_sideFacing_55 (by decide) ?_
              exact ih (a + 1) a (by omega) (by omega) ls (lv_sub hl [2, 3, 4, 5, 1, 0] rfl) (hf.trans (show fb_M_sideFacing u X Y w dx dy (fl_M_sideFacing u X Y w dx dy n) a fst = (fl_M_sideFacing u X Y w dx dy n (a + 1) a) from by unfold fb_M_sideFacing; rw [if_pos c3a, if_pos c4a, if_pos c5a]))
  refine lv_iload_n hx hb d_M_sideFacing_0 rfl (lv_at hl 1 rfl) ?_
  refine lv_istore (lv' := [(4, .int (nI (w))), (0, .ref hm), (1, .int (nI (w))), (2, .int dx), (3, .int dy)]) hx hb d_M_sideFacing_1 hl (by decide) rfl (fun ls hl => ?_)
  refine lv_iconst (v := 0) hx hb d_M_sideFacing_3 (by decide) ?_
  refine lv_istore (lv' := [(5, .int 0), (4, .int (nI (w))), (0, .ref hm), (1, .int (nI (w))), (2, .int dx), (3, .int dy)]) hx hb d_M_sideFacing_4 hl (by decide) rfl (fun ls hl => ?_)
  exact key 40 0 w (by omega) hw ls (lv_sub hl [2, 3, 4, 5, 1, 0] rfl) (show f_M_sideFacing u X Y w dx dy = (fl_M_sideFacing u X Y w dx dy 40 0 w) from rfl)
def f_M_sweep (u : Nat → Bool) (X : Nat → Int32) (Y : Nat → Int32) (a : Nat) : Int32 := (f_M_cross (X a) (Y a) (X (tw a)) (Y (tw a)))
theorem i_M_sweep : inV y_M_sweep b_M_sweep 2 (some .int) 1 := ⟨kM_y_M_sweep, kV_y_M_sweep, kI_M, kY_y_M_sweep, by decide +kernel⟩
set_option maxHeartbeats 4000000 in
set_option maxRecDepth 100000 in
theorem c_M_sweep (l : Launch) (D : va_G) (hm hu hxs hys : Nat) (cZ cI : ClassId) (u : Nat → Bool) (X Y : Nat → Int32) (a : Nat) (ha : a < 40)  : PM l y_M_sweep b_M_sweep 2 (some .int) 1 23 D (mapW hm hu hxs hys cZ cI u X Y) [(cZ, .boolean), (cI, .int)] [.ref hm, .int (nI (a))] (f_M_sweep u X Y a) := by
  refine pMet rfl (fun p e s m below meth c S hr hlk hP hK ls hl => ?_) (Nat.le_of_ble_eq_true rfl)
  have hx := S.1
  have hb := S.2.1
  have hl : lv_has ls 2 [(0, .ref hm), (1, .int (nI (a)))] := hl
  refine lv_aload_n hx hb d_M_sweep_0 rfl (lv_at hl 0 rfl) ?_
  refine rget S hK hP 0 rfl rfl in_M 1 (by decide) kF_M_15 rfl d_M_sweep_1 ?_
  refine lv_iload_n hx hb d_M_sweep_4 rfl (lv_at hl 1 rfl) ?_
  refine riald (j := a) S hK hP 2 1 rfl rfl (by omega) (by first | decide | omega) d_M_sweep_5 ?_
  refine lv_aload_n hx hb d_M_sweep_6 rfl (lv_at hl 0 rfl) ?_
  refine rget S hK hP 0 rfl rfl in_M 2 (by decide) kF_M_19 rfl d_M_sweep_7 ?_
  refine lv_iload_n hx hb d_M_sweep_10 rfl (lv_at hl 1 rfl) ?_
  refine riald (j := a) S hK hP 3 1 rfl rfl (by omega) (by first | decide | omega) d_M_sweep_11 ?_
  refine lv_aload_n hx hb d_M_sweep_12 rfl (lv_at hl 0 rfl) ?_
  refine rget S hK hP 0 rfl rfl in_M 1 (by decide) kF_M_15 rfl d_M_sweep_13 ?_
  refine lv_iload_n hx hb d_M_sweep_16 rfl (lv_at hl 1 rfl) ?_
  refine lv_iconst (v := 1) hx hb d_M_sweep_17 (by decide) ?_
  refine lv_ixor hx hb d_M_sweep_18 ?_
  refine rtop (y := nI (tw a)) (nI_xor1 (a) (by omega)) ?_
  refine riald (j := tw a) S hK hP 2 1 rfl rfl (tw_lt (by omega)) (by first | decide | omega) d_M_sweep_19 ?_
  refine lv_aload_n hx hb d_M_sweep_20 rfl (lv_at hl 0 rfl) ?_
  refine rget S hK hP 0 rfl rfl in_M 2 (by decide) kF_M_19 rfl d_M_sweep_21 ?_
  refine lv_iload_n hx hb d_M_sweep_24 rfl (lv_at hl 1 rfl) ?_
  refine lv_iconst (v := 1) hx hb d_M_sweep_25 (by decide) ?_
  refine lv_ixor hx hb d_M_sweep_26 ?_
  refine rtop (y := nI (tw a)) (nI_xor1 (a) (by omega)) ?_
  refine riald (j := tw a) S hK hP 3 1 rfl rfl (tw_lt (by omega)) (by first | decide | omega) d_M_sweep_27 ?_
  refine rcallS (rest := []) (v := (f_M_cross (X a) (Y a) (X (tw a)) (Y (tw a)))) S [.int (X a), .int (Y a), .int (X (tw a)), .int (Y (tw a))] hK hP [] rfl [] rfl (c_M_cross l D  (X a) (Y a) (X (tw a)) (Y (tw a)) ) i_M_cross rfl kL_M_53 ⟨Nat.le_of_ble_eq_true rfl, Nat.le_of_ble_eq_true rfl⟩ (by exact ⟨Nat.zero_le _, Nat.zero_le _⟩) hl.1 rfl (Nat.le_of_ble_eq_true rfl) d_M_sweep_28 ?_
  exact rret S hr hlk (v := (f_M_cross (X a) (Y a) (X (tw a)) (Y (tw a)))) (show f_M_sweep u X Y a = (f_M_cross (X a) (Y a) (X (tw a)) (Y (tw a))) from rfl).symm d_M_sweep_31
