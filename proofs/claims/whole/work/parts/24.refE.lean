theorem updN_self (f : Nat → Nat) (k v : Nat) : updN f k v k = v := by unfold updN; rw [if_pos rfl]
theorem updN_ne (f : Nat → Nat) {k j : Nat} (v : Nat) (h : j ≠ k) : updN f k v j = f j := by unfold updN; rw [if_neg h]
theorem updN_lt {f : Nat → Nat} {N k v : Nat} (h : ∀ i, f i < N) (hv : v < N) : ∀ i, updN f k v i < N := by
  intro i
  unfold updN
  split
  · exact hv
  · exact h i
def fx_R_fill_2 (u : Nat → Bool) (aX : Nat → Int32) (aY : Nat → Int32) (bX : Nat → Int32) (bY : Nat → Int32) (k1 : Nat) (fm : Int32) (to : Int32) (at2 : Nat) (ac2 : Nat → Nat) : (Nat) × (Nat → Nat) := (at2, ac2)
def fb_R_fill_2 (u : Nat → Bool) (aX : Nat → Int32) (aY : Nat → Int32) (bX : Nat → Int32) (bY : Nat → Int32) (k1 : Nat) (fm : Int32) (to : Int32) (rec : (Nat) → (Nat → Nat) → (Nat) × (Nat → Nat)) (at2 : Nat) (ac2 : Nat → Nat) : (Nat) × (Nat → Nat) := if f_R_below u aX aY bX bY k1 (ac2 (at2 - 1)) (fm + to) = true then (rec (at2 - 1) (updN ac2 at2 (ac2 (at2 - 1)))) else (at2, ac2)
def fl_R_fill_2 (u : Nat → Bool) (aX : Nat → Int32) (aY : Nat → Int32) (bX : Nat → Int32) (bY : Nat → Int32) (k1 : Nat) (fm : Int32) (to : Int32) : Nat → (Nat) → (Nat → Nat) → (Nat) × (Nat → Nat)
  | 0, at2, ac2 => fx_R_fill_2 u aX aY bX bY k1 fm to at2 ac2
  | n2 + 1, at2, ac2 => fb_R_fill_2 u aX aY bX bY k1 fm to (fl_R_fill_2 u aX aY bX bY k1 fm to n2) at2 ac2
def fx_R_fill_1 (u : Nat → Bool) (aX : Nat → Int32) (aY : Nat → Int32) (bX : Nat → Int32) (bY : Nat → Int32) (sp : Nat) (k1 : Nat) (fm : Int32) (to : Int32) (ac1 : Nat → Nat) (mn1 : Nat → Nat) : (Nat → Nat) × (Nat → Nat) := (ac1, mn1)
def fb_R_fill_1 (u : Nat → Bool) (aX : Nat → Int32) (aY : Nat → Int32) (bX : Nat → Int32) (bY : Nat → Int32) (sp : Nat) (rec : (Nat) → (Int32) → (Int32) → (Nat → Nat) → (Nat → Nat) → (Nat → Nat) × (Nat → Nat)) (k1 : Nat) (fm : Int32) (to : Int32) (ac1 : Nat → Nat) (mn1 : Nat → Nat) : (Nat → Nat) × (Nat → Nat) := if u k1 = true then (if fm < aX k1 then (rec (k1 + 1) fm to ac1 mn1) else (if bX k1 < to then (rec (k1 + 1) fm to ac1 mn1) else (rec (k1 + 1) fm to (updN ((fl_R_fill_2 u aX aY bX bY k1 fm to (mn1 sp) ((20 * sp) + (mn1 sp)) ac1).2) ((fl_R_fill_2 u aX aY bX bY k1 fm to (mn1 sp) ((20 * sp) + (mn1 sp)) ac1).1) k1) (updN mn1 sp ((mn1 sp) + 1))))) else (rec (k1 + 1) fm to ac1 mn1)
def fl_R_fill_1 (u : Nat → Bool) (aX : Nat → Int32) (aY : Nat → Int32) (bX : Nat → Int32) (bY : Nat → Int32) (sp : Nat) : Nat → (Nat) → (Int32) → (Int32) → (Nat → Nat) → (Nat → Nat) → (Nat → Nat) × (Nat → Nat)
  | 0, k1, fm, to, ac1, mn1 => fx_R_fill_1 u aX aY bX bY sp k1 fm to ac1 mn1
  | n1 + 1, k1, fm, to, ac1, mn1 => fb_R_fill_1 u aX aY bX bY sp (fl_R_fill_1 u aX aY bX bY sp n1) k1 fm to ac1 mn1
def f_R_fill (u : Nat → Bool) (aX : Nat → Int32) (aY : Nat → Int32) (bX : Nat → Int32) (bY : Nat → Int32) (lns : Nat) (ln : Nat → Int32) (ac : Nat → Nat) (mn : Nat → Nat) (sp : Nat) : (Nat → Nat) × (Nat → Nat) := if sp = 0 then (ac, updN mn sp 0) else (if sp = lns then (ac, updN mn sp 0) else (fl_R_fill_1 u aX aY bX bY sp 20 0 (ln (sp - 1)) (ln sp) ac (updN mn sp 0)))
theorem i_R_fill : inV y_R_fill b_R_fill 6 (none) 1 := ⟨kM_y_R_fill, kV_y_R_fill, kI_R, kY_y_R_fill, by decide +kernel⟩
set_option maxHeartbeats 4000000 in
set_option maxRecDepth 100000 in
theorem c_R_fill (l : Launch) (D : va_G) (q0 qu qa qb qc qd qe qf qg qh : Nat) (cZ cI : ClassId) (u : Nat → Bool) (aX aY bX bY : Nat → Int32) (kn : Bool) (lns : Nat) (ln : Nat → Int32) (ac mn sm : Nat → Nat) (sp : Nat) (sz : Nat) (hsp : sp < 41) (hAc : ∀ i, ac i < 20) (hln : lns ≤ 40) (hsl : sp ≤ lns) : SMv l y_R_fill b_R_fill 6 2 48 D [(q0, .inr (3, [.ref qu, .ref qa, .ref qb, .ref qc, .ref qd, .int (b2i (kn)), .int (nI (lns)), .ref qe, .ref qf, .ref qg, .ref qh])), (qu, .inl (cZ, 20, .inl (fun z9 => b2i (u z9)))), (qa, .inl (cI, 20, .inl aX)), (qb, .inl (cI, 20, .inl aY)), (qc, .inl (cI, 20, .inl bX)), (qd, .inl (cI, 20, .inl bY)), (qe, .inl (cI, 40, .inl ln)), (qf, .inl (cI, 820, .inl (fun z9 => nI (ac z9)))), (qg, .inl (cI, 41, .inl (fun z9 => nI (mn z9)))), (qh, .inl (cI, 861, .inl (fun z9 => nI (sm z9))))] [(cZ, .boolean), (cI, .int)] [.ref q0, .int (nI (sp))] sz [(q0, .inr (3, [.ref qu, .ref qa, .ref qb, .ref qc, .ref qd, .int (b2i (kn)), .int (nI (lns)), .ref qe, .ref qf, .ref qg, .ref qh])), (qu, .inl (cZ, 20, .inl (fun z9 => b2i (u z9)))), (qa, .inl (cI, 20, .inl aX)), (qb, .inl (cI, 20, .inl aY)), (qc, .inl (cI, 20, .inl bX)), (qd, .inl (cI, 20, .inl bY)), (qe, .inl (cI, 40, .inl ln)), (qf, .inl (cI, 820, .inl (fun z9 => nI (((f_R_fill u aX aY bX bY lns ln ac mn sp).1) z9)))), (qg, .inl (cI, 41, .inl (fun z9 => nI (((f_R_fill u aX aY bX bY lns ln ac mn sp).2) z9)))), (qh, .inl (cI, 861, .inl (fun z9 => nI (sm z9))))] := by
  refine sMet (Qc := fun A => sQv D [(q0, .inr (3, [.ref qu, .ref qa, .ref qb, .ref qc, .ref qd, .int (b2i (kn)), .int (nI (lns)), .ref qe, .ref qf, .ref qg, .ref qh])), (qu, .inl (cZ, 20, .inl (fun z9 => b2i (u z9)))), (qa, .inl (cI, 20, .inl aX)), (qb, .inl (cI, 20, .inl aY)), (qc, .inl (cI, 20, .inl bX)), (qd, .inl (cI, 20, .inl bY)), (qe, .inl (cI, 40, .inl ln)), (qf, .inl (cI, 820, .inl (fun z9 => nI (((f_R_fill u aX aY bX bY lns ln ac mn sp).1) z9)))), (qg, .inl (cI, 41, .inl (fun z9 => nI (((f_R_fill u aX aY bX bY lns ln ac mn sp).2) z9)))), (qh, .inl (cI, 861, .inl (fun z9 => nI (sm z9))))] [(cZ, .boolean), (cI, .int)] A) rfl (fun p e s m below meth c A S hr hlk hP hK hD hA hS ls hl => ?_) (Nat.le_of_ble_eq_true rfl)
  have hx := S.1
  have hb := S.2.1
  have hl : lv_has ls 6 [(0, .ref q0), (1, .int (nI (sp)))] := hl
  refine lv_aload_n hx hb d_R_fill_0 rfl (lv_at hl 0 rfl) ?_
  refine rget S hK hP 0 rfl rfl in_R 9 (by decide) kF_R_32 rfl d_R_fill_1 ?_
  refine lv_iload_n hx hb d_R_fill_4 rfl (lv_at hl 1 rfl) ?_
  refine lv_iconst (v := 0) hx hb d_R_fill_5 (by decide) ?_
  refine rnast (j := sp) (x := 0) S hK hP hD hS 8 1 rfl rfl (by omega) (by first | decide | omega) d_R_fill_6 (fun H locs hP hD hS => ?_)
  have hP : va_P D CLS [(q0, .inr (3, [.ref qu, .ref qa, .ref qb, .ref qc, .ref qd, .int (b2i (kn)), .int (nI (lns)), .ref qe, .ref qf, .ref qg, .ref qh])), (qu, .inl (cZ, 20, .inl (fun z9 => b2i (u z9)))), (qa, .inl (cI, 20, .inl aX)), (qb, .inl (cI, 20, .inl aY)), (qc, .inl (cI, 20, .inl bX)), (qd, .inl (cI, 20, .inl bY)), (qe, .inl (cI, 40, .inl ln)), (qf, .inl (cI, 820, .inl (fun z9 => nI (ac z9)))), (qg, .inl (cI, 41, .inl (fun z9 => nI ((updN mn sp 0) z9)))), (qh, .inl (cI, 861, .inl (fun z9 => nI (sm z9))))] H := hP
  have hD : va_D A [(q0, .inr (3, [.ref qu, .ref qa, .ref qb, .ref qc, .ref qd, .int (b2i (kn)), .int (nI (lns)), .ref qe, .ref qf, .ref qg, .ref qh])), (qu, .inl (cZ, 20, .inl (fun z9 => b2i (u z9)))), (qa, .inl (cI, 20, .inl aX)), (qb, .inl (cI, 20, .inl aY)), (qc, .inl (cI, 20, .inl bX)), (qd, .inl (cI, 20, .inl bY)), (qe, .inl (cI, 40, .inl ln)), (qf, .inl (cI, 820, .inl (fun z9 => nI (ac z9)))), (qg, .inl (cI, 41, .inl (fun z9 => nI ((updN mn sp 0) z9)))), (qh, .inl (cI, 861, .inl (fun z9 => nI (sm z9))))] := hD
  refine lv_iload_n hx hb d_R_fill_7 rfl (lv_at hl 1 rfl) ?_
  refine lv_if_eq (tgt := 19) hx hb d_R_fill_8 (by decide) (fun c1 => ?_) (fun c1 => ?_)
  · have c1a : sp = 0 := (nI_eq (a := sp) (b := 0) (by omega) (by decide)).mp c1
    have eqf := (show f_R_fill u aX aY bX bY lns ln ac mn sp = (ac, updN mn sp 0) from by unfold f_R_fill; rw [if_pos c1a])
    exact rretV S hr hlk (by rw [eqf]) hP hK hD hS d_R_fill_19
  · have c1a : ¬ (sp = 0) := fun h => c1 ((nI_eq (a := sp) (b := 0) (by omega) (by decide)).mpr h)
    refine lv_iload_n hx hb d_R_fill_11 rfl (lv_at hl 1 rfl) ?_
    refine lv_aload_n hx hb d_R_fill_12 rfl (lv_at hl 0 rfl) ?_
    refine rget S hK hP 0 rfl rfl in_R 6 (by decide) kF_R_86 rfl d_R_fill_13 ?_
    refine lv_icmp_ne (tgt := 20) hx hb d_R_fill_16 (by decide) (fun c2 => ?_) (fun c2 => ?_)
    · have c2a : ¬ (sp = lns) := fun h => c2 ((nI_eq (a := sp) (b := lns) (by omega) (by omega)).mpr h)
      refine lv_aload_n hx hb d_R_fill_20 rfl (lv_at hl 0 rfl) ?_
      refine rget S hK hP 0 rfl rfl in_R 7 (by decide) kF_R_26 rfl d_R_fill_21 ?_
      refine lv_iload_n hx hb d_R_fill_24 rfl (lv_at hl 1 rfl) ?_
      refine lv_iconst (v := 1) hx hb d_R_fill_25 (by decide) ?_
      refine lv_isub hx hb d_R_fill_26 ?_
      refine rtop (y := nI (sp - 1)) (pk_sub (a := sp) (b := 1) (by omega)) ?_
      refine riald (j := sp - 1) S hK hP 6 1 rfl rfl (by omega) (by first | decide | omega) d_R_fill_27 ?_
      refine lv_istore_n (lv' := [(2, .int (ln (sp - 1))), (0, .ref q0), (1, .int (nI (sp)))]) hx hb d_R_fill_28 rfl hl (by decide) rfl (fun ls hl => ?_)
      refine lv_aload_n hx hb d_R_fill_29 rfl (lv_at hl 1 rfl) ?_
      refine rget S hK hP 0 rfl rfl in_R 7 (by decide) kF_R_26 rfl d_R_fill_30 ?_
      refine lv_iload_n hx hb d_R_fill_33 rfl (lv_at hl 2 rfl) ?_
      refine riald (j := sp) S hK hP 6 1 rfl rfl (by omega) (by first | decide | omega) d_R_fill_34 ?_
      refine lv_istore_n (lv' := [(3, .int (ln sp)), (2, .int (ln (sp - 1))), (0, .ref q0), (1, .int (nI (sp)))]) hx hb d_R_fill_35 rfl hl (by decide) rfl (fun ls hl => ?_)
      refine lv_iconst (v := 0) hx hb d_R_fill_36 (by decide) ?_
      refine lv_istore (lv' := [(4, .int 0), (3, .int (ln sp)), (2, .int (ln (sp - 1))), (0, .ref q0), (1, .int (nI (sp)))]) hx hb d_R_fill_37 hl (by decide) rfl (fun ls hl => ?_)
      have key1 : ∀ (n1 : Nat) (k1 : Nat) (fm : Int32) (to : Int32) (ac1 : Nat → Nat) (mn1 : Nat → Nat) (hk1 : k1 + n1 = 20) (hA1 : ∀ i, ac1 i < 20) (hM1 : mn1 sp ≤ k1) (H : Heap) (locs : List Loc) (hP : va_P D CLS [(q0, .inr (3, [.ref qu, .ref qa, .ref qb, .ref qc, .ref qd, .int (b2i (kn)), .int (nI (lns)), .ref qe, .ref qf, .ref qg, .ref qh])), (qu, .inl (cZ, 20, .inl (fun z9 => b2i (u z9)))), (qa, .inl (cI, 20, .inl aX)), (qb, .inl (cI, 20, .inl aY)), (qc, .inl (cI, 20, .inl bX)), (qd, .inl (cI, 20, .inl bY)), (qe, .inl (cI, 40, .inl ln)), (qf, .inl (cI, 820, .inl (fun z9 => nI (ac1 z9)))), (qg, .inl (cI, 41, .inl (fun z9 => nI (mn1 z9)))), (qh, .inl (cI, 861, .inl (fun z9 => nI (sm z9))))] H) (hD : va_D A [(q0, .inr (3, [.ref qu, .ref qa, .ref qb, .ref qc, .ref qd, .int (b2i (kn)), .int (nI (lns)), .ref qe, .ref qf, .ref qg, .ref qh])), (qu, .inl (cZ, 20, .inl (fun z9 => b2i (u z9)))), (qa, .inl (cI, 20, .inl aX)), (qb, .inl (cI, 20, .inl aY)), (qc, .inl (cI, 20, .inl bX)), (qd, .inl (cI, 20, .inl bY)), (qe, .inl (cI, 40, .inl ln)), (qf, .inl (cI, 820, .inl (fun z9 => nI (ac1 z9)))), (qg, .inl (cI, 41, .inl (fun z9 => nI (mn1 z9)))), (qh, .inl (cI, 861, .inl (fun z9 => nI (sm z9))))]) (hS : va_S A s.heap H locs) (ls : Array Slot) (hl : lv_has ls 6 [(0, .ref q0), (1, .int (nI (sp))), (2, .int fm), (3, .int to), (4, .int (nI (k1)))]) (hf : f_R_fill u aX aY bX bY lns ln ac mn sp = fl_R_fill_1 u aX aY bX bY sp n1 k1 fm to ac1 mn1), W p l e { frames := 2, cells := 0, slots := 0, locals := 48 } s m [.ref q0, .int (nI (sp))].toArray below meth c H locs 0 0 (MQ below (sQv D [(q0, .inr (3, [.ref qu, .ref qa, .ref qb, .ref qc, .ref qd, .int (b2i (kn)), .int (nI (lns)), .ref qe, .ref qf, .ref qg, .ref qh])), (qu, .inl (cZ, 20, .inl (fun z9 => b2i (u z9)))), (qa, .inl (cI, 20, .inl aX)), (qb, .inl (cI, 20, .inl aY)), (qc, .inl (cI, 20, .inl bX)), (qd, .inl (cI, 20, .inl bY)), (qe, .inl (cI, 40, .inl ln)), (qf, .inl (cI, 820, .inl (fun z9 => nI (((f_R_fill u aX aY bX bY lns ln ac mn sp).1) z9)))), (qg, .inl (cI, 41, .inl (fun z9 => nI (((f_R_fill u aX aY bX bY lns ln ac mn sp).2) z9)))), (qh, .inl (cI, 861, .inl (fun z9 => nI (sm z9))))] [(cZ, .boolean), (cI, .int)] A) [.ref q0, .int (nI (sp))].toArray s 0 0 A) (F0 m 39 ls []) := by
        clear hP hD hS hl
        intro n1
        induction n1 with
        | zero =>
          intro k1 fm to ac1 mn1 hk1 hA1 hM1 H locs hP hD hS ls hl hf
          refine lv_iload hx hb d_R_fill_39 (lv_at hl 4 rfl) ?_
          refine lv_bipush (v := 20) hx hb d_R_fill_41 (by decide) ?_
          refine lv_icmp_ge (tgt := 168) hx hb d_R_fill_43 (by decide) (fun c3 => ?_) (fun c3 => ?_)
          · have c3a : 20 ≤ k1 := (nI_leI (a := 20) (b := k1) (by decide) (by omega)).mp c3
            have eqf := (hf.trans (show fx_R_fill_1 u aX aY bX bY sp k1 fm to ac1 mn1 = (ac1, mn1) from rfl))
            exact rretV S hr hlk (by rw [eqf]) hP hK hD hS d_R_fill_168
          · have c3a : ¬ (20 ≤ k1) := fun h => c3 ((nI_leI (a := 20) (b := k1) (by decide) (by omega)).mpr h)
            omega
        | succ n1 ih1 =>
          intro k1 fm to ac1 mn1 hk1 hA1 hM1 H locs hP hD hS ls hl hf
          refine lv_iload hx hb d_R_fill_39 (lv_at hl 4 rfl) ?_
          refine lv_bipush (v := 20) hx hb d_R_fill_41 (by decide) ?_
          refine lv_icmp_ge (tgt := 168) hx hb d_R_fill_43 (by decide) (fun c4 => ?_) (fun c4 => ?_)
          · have c4a : 20 ≤ k1 := (nI_leI (a := 20) (b := k1) (by decide) (by omega)).mp c4
            omega
          · have c4a : ¬ (20 ≤ k1) := fun h => c4 ((nI_leI (a := 20) (b := k1) (by decide) (by omega)).mpr h)
            refine lv_aload_n hx hb d_R_fill_46 rfl (lv_at hl 0 rfl) ?_
            refine rget S hK hP 0 rfl rfl in_R 0 (by decide) kF_R_7 rfl d_R_fill_47 ?_
            refine lv_iload hx hb d_R_fill_50 (lv_at hl 4 rfl) ?_
            refine rzald (j := k1) S hK hP 1 0 rfl rfl (by omega) (by first | decide | omega) d_R_fill_52 ?_
            refine lv_if_eq (tgt := 162) hx hb d_R_fill_53 (by decide) (fun c5 => ?_) (fun c5 => ?_)
            · have c5a : ¬ (u k1 = true) := b2n (b2i_eq0.mp c5)
              refine lv_iinc (v := nI (k1 + 1)) (lv' := [(4, .int (nI (k1 + 1))), (0, .ref q0), (1, .int (nI (sp))), (2, .int fm), (3, .int to)]) hx hb d_R_fill_162 hl (k := 4) rfl (nI_1 (k1)) (by decide) rfl (fun ls hl => ?_)
              refine lv_goto (tgt := 39) hx hb d_R_fill_165 (by decide) ?_
              exact ih1 (k1 + 1) fm to ac1 mn1 (by omega) (by first | exact hA1 | exact updN_lt hp2b (by omega)) (by first | omega | (rw [updN_self]; omega)) _ _ (hP.sub [0, 1, 2, 3, 4, 5, 6, 7, 8, 9] rfl) (hD.sub [0, 1, 2, 3, 4, 5, 6, 7, 8, 9] (by decide) rfl) hS ls (lv_sub hl [1, 2, 3, 4, 0] rfl) (hf.trans (show fb_R_fill_1 u aX aY bX bY sp (fl_R_fill_1 u aX aY bX bY sp n1) k1 fm to ac1 mn1 = (fl_R_fill_1 u aX aY bX bY sp n1 (k1 + 1) fm to ac1 mn1) from by unfold fb_R_fill_1; rw [if_neg c5a]))
            · have c5a : u k1 = true := b2i_ne0.mp c5
              refine lv_aload_n hx hb d_R_fill_56 rfl (lv_at hl 0 rfl) ?_
              refine rget S hK hP 0 rfl rfl in_R 1 (by decide) kF_R_13 rfl d_R_fill_57 ?_
              refine lv_iload hx hb d_R_fill_60 (lv_at hl 4 rfl) ?_
              refine riald (j := k1) S hK hP 2 1 rfl rfl (by omega) (by first | decide | omega) d_R_fill_62 ?_
              refine lv_iload_n hx hb d_R_fill_63 rfl (lv_at hl 2 rfl) ?_
              refine lv_icmp_gt (tgt := 162) hx hb d_R_fill_64 (by decide) (fun c6 => ?_) (fun c6 => ?_)
              · have c6a : fm < aX k1 := c6
                refine lv_iinc (v := nI (k1 + 1)) (lv' := [(4, .int (nI (k1 + 1))), (0, .ref q0), (1, .int (nI (sp))), (2, .int fm), (3, .int to)]) hx hb d_R_fill_162 hl (k := 4) rfl (nI_1 (k1)) (by decide) rfl (fun ls hl => ?_)
                refine lv_goto (tgt := 39) hx hb d_R_fill_165 (by decide) ?_
                exact ih1 (k1 + 1) fm to ac1 mn1 (by omega) (by first | exact hA1 | exact updN_lt hp2b (by omega)) (by first | omega | (rw [updN_self]; omega)) _ _ (hP.sub [0, 1, 2, 3, 4, 5, 6, 7, 8, 9] rfl) (hD.sub [0, 1, 2, 3, 4, 5, 6, 7, 8, 9] (by decide) rfl) hS ls (lv_sub hl [1, 2, 3, 4, 0] rfl) (hf.trans (show fb_R_fill_1 u aX aY bX bY sp (fl_R_fill_1 u aX aY bX bY sp n1) k1 fm to ac1 mn1 = (fl_R_fill_1 u aX aY bX bY sp n1 (k1 + 1) fm to ac1 mn1) from by unfold fb_R_fill_1; rw [if_pos c5a, if_pos c6a]))
              · have c6a : ¬ (fm < aX k1) := c6
                refine lv_aload_n hx hb d_R_fill_67 rfl (lv_at hl 0 rfl) ?_
                refine rget S hK hP 0 rfl rfl in_R 3 (by decide) kF_R_20 rfl d_R_fill_68 ?_
                refine lv_iload hx hb d_R_fill_71 (lv_at hl 4 rfl) ?_
                refine riald (j := k1) S hK hP 4 1 rfl rfl (by omega) (by first | decide | omega) d_R_fill_73 ?_
                refine lv_iload_n hx hb d_R_fill_74 rfl (lv_at hl 3 rfl) ?_
                refine lv_icmp_lt (tgt := 162) hx hb d_R_fill_75 (by decide) (fun c7 => ?_) (fun c7 => ?_)
                · have c7a : bX k1 < to := c7
                  refine lv_iinc (v := nI (k1 + 1)) (lv' := [(4, .int (nI (k1 + 1))), (0, .ref q0), (1, .int (nI (sp))), (2, .int fm), (3, .int to)]) hx hb d_R_fill_162 hl (k := 4) rfl (nI_1 (k1)) (by decide) rfl (fun ls hl => ?_)
                  refine lv_goto (tgt := 39) hx hb d_R_fill_165 (by decide) ?_
                  exact ih1 (k1 + 1) fm to ac1 mn1 (by omega) (by first | exact hA1 | exact updN_lt hp2b (by omega)) (by first | omega | (rw [updN_self]; omega)) _ _ (hP.sub [0, 1, 2, 3, 4, 5, 6, 7, 8, 9] rfl) (hD.sub [0, 1, 2, 3, 4, 5, 6, 7, 8, 9] (by decide) rfl) hS ls (lv_sub hl [1, 2, 3, 4, 0] rfl) (hf.trans (show fb_R_fill_1 u aX aY bX bY sp (fl_R_fill_1 u aX aY bX bY sp n1) k1 fm to ac1 mn1 = (fl_R_fill_1 u aX aY bX bY sp n1 (k1 + 1) fm to ac1 mn1) from by unfold fb_R_fill_1; rw [if_pos c5a, if_neg c6a, if_pos c7a]))
                · have c7a : ¬ (bX k1 < to) := c7
                  refine lv_bipush (v := 20) hx hb d_R_fill_78 (by decide) ?_
                  refine lv_iload_n hx hb d_R_fill_80 rfl (lv_at hl 1 rfl) ?_
                  refine lv_imul hx hb d_R_fill_81 ?_
                  refine rtop (y := nI (20 * sp)) (pk_mul (20) (sp)) ?_
                  refine lv_aload_n hx hb d_R_fill_82 rfl (lv_at hl 0 rfl) ?_
                  refine rget S hK hP 0 rfl rfl in_R 9 (by decide) kF_R_32 rfl d_R_fill_83 ?_
                  refine lv_iload_n hx hb d_R_fill_86 rfl (lv_at hl 1 rfl) ?_
                  refine rnald (j := sp) S hK hP 8 1 rfl rfl (by omega) (by first | decide | omega) d_R_fill_87 ?_
                  refine lv_iadd hx hb d_R_fill_88 ?_
                  refine rtop (y := nI ((20 * sp) + (mn1 sp))) (nI_add (20 * sp) (mn1 sp)) ?_
                  refine lv_istore (lv' := [(5, .int (nI ((20 * sp) + (mn1 sp)))), (0, .ref q0), (1, .int (nI (sp))), (2, .int fm), (3, .int to), (4, .int (nI (k1)))]) hx hb d_R_fill_89 hl (by decide) rfl (fun ls hl => ?_)
                  have key2 : ∀ (n2 : Nat) (at2 : Nat) (ac2 : Nat → Nat) (hk2 : at2 = 20 * sp + n2) (hA2 : ∀ i, ac2 i < 20) (hat2 : at2 < 820) (H : Heap) (locs : List Loc) (hP : va_P D CLS [(q0, .inr (3, [.ref qu, .ref qa, .ref qb, .ref qc, .ref qd, .int (b2i (kn)), .int (nI (lns)), .ref qe, .ref qf, .ref qg, .ref qh])), (qu, .inl (cZ, 20, .inl (fun z9 => b2i (u z9)))), (qa, .inl (cI, 20, .inl aX)), (qb, .inl (cI, 20, .inl aY)), (qc, .inl (cI, 20, .inl bX)), (qd, .inl (cI, 20, .inl bY)), (qe, .inl (cI, 40, .inl ln)), (qf, .inl (cI, 820, .inl (fun z9 => nI (ac2 z9)))), (qg, .inl (cI, 41, .inl (fun z9 => nI (mn1 z9)))), (qh, .inl (cI, 861, .inl (fun z9 => nI (sm z9))))] H) (hD : va_D A [(q0, .inr (3, [.ref qu, .ref qa, .ref qb, .ref qc, .ref qd, .int (b2i (kn)), .int (nI (lns)), .ref qe, .ref qf, .ref qg, .ref qh])), (qu, .inl (cZ, 20, .inl (fun z9 => b2i (u z9)))), (qa, .inl (cI, 20, .inl aX)), (qb, .inl (cI, 20, .inl aY)), (qc, .inl (cI, 20, .inl bX)), (qd, .inl (cI, 20, .inl bY)), (qe, .inl (cI, 40, .inl ln)), (qf, .inl (cI, 820, .inl (fun z9 => nI (ac2 z9)))), (qg, .inl (cI, 41, .inl (fun z9 => nI (mn1 z9)))), (qh, .inl (cI, 861, .inl (fun z9 => nI (sm z9))))]) (hS : va_S A s.heap H locs) (ls : Array Slot) (hl : lv_has ls 6 [(0, .ref q0), (1, .int (nI (sp))), (2, .int fm), (3, .int to), (4, .int (nI (k1))), (5, .int (nI (at2)))]) (cont : ∀ (res : (Nat) × (Nat → Nat)), res = fl_R_fill_2 u aX aY bX bY k1 fm to n2 at2 ac2 → (res.1 < 820) → (∀ i, res.2 i < 20) → ∀ (H : Heap) (locs : List Loc), va_P D CLS [(q0, .inr (3, [.ref qu, .ref qa, .ref qb, .ref qc, .ref qd, .int (b2i (kn)), .int (nI (lns)), .ref qe, .ref qf, .ref qg, .ref qh])), (qu, .inl (cZ, 20, .inl (fun z9 => b2i (u z9)))), (qa, .inl (cI, 20, .inl aX)), (qb, .inl (cI, 20, .inl aY)), (qc, .inl (cI, 20, .inl bX)), (qd, .inl (cI, 20, .inl bY)), (qe, .inl (cI, 40, .inl ln)), (qf, .inl (cI, 820, .inl (fun z9 => nI (res.2 z9)))), (qg, .inl (cI, 41, .inl (fun z9 => nI (mn1 z9)))), (qh, .inl (cI, 861, .inl (fun z9 => nI (sm z9))))] H → va_D A [(q0, .inr (3, [.ref qu, .ref qa, .ref qb, .ref qc, .ref qd, .int (b2i (kn)), .int (nI (lns)), .ref qe, .ref qf, .ref qg, .ref qh])), (qu, .inl (cZ, 20, .inl (fun z9 => b2i (u z9)))), (qa, .inl (cI, 20, .inl aX)), (qb, .inl (cI, 20, .inl aY)), (qc, .inl (cI, 20, .inl bX)), (qd, .inl (cI, 20, .inl bY)), (qe, .inl (cI, 40, .inl ln)), (qf, .inl (cI, 820, .inl (fun z9 => nI (res.2 z9)))), (qg, .inl (cI, 41, .inl (fun z9 => nI (mn1 z9)))), (qh, .inl (cI, 861, .inl (fun z9 => nI (sm z9))))] → va_S A s.heap H locs → ∀ ls : Array Slot, lv_has ls 6 [(0, .ref q0), (1, .int (nI (sp))), (2, .int fm), (3, .int to), (4, .int (nI (k1))), (5, .int (nI (res.1)))] → W p l e { frames := 2, cells := 0, slots := 0, locals := 48 } s m [.ref q0, .int (nI (sp))].toArray below meth c H locs 0 0 (MQ below (sQv D [(q0, .inr (3, [.ref qu, .ref qa, .ref qb, .ref qc, .ref qd, .int (b2i (kn)), .int (nI (lns)), .ref qe, .ref qf, .ref qg, .ref qh])), (qu, .inl (cZ, 20, .inl (fun z9 => b2i (u z9)))), (qa, .inl (cI, 20, .inl aX)), (qb, .inl (cI, 20, .inl aY)), (qc, .inl (cI, 20, .inl bX)), (qd, .inl (cI, 20, .inl bY)), (qe, .inl (cI, 40, .inl ln)), (qf, .inl (cI, 820, .inl (fun z9 => nI (((f_R_fill u aX aY bX bY lns ln ac mn sp).1) z9)))), (qg, .inl (cI, 41, .inl (fun z9 => nI (((f_R_fill u aX aY bX bY lns ln ac mn sp).2) z9)))), (qh, .inl (cI, 861, .inl (fun z9 => nI (sm z9))))] [(cZ, .boolean), (cI, .int)] A) [.ref q0, .int (nI (sp))].toArray s 0 0 A) (F0 m 143 ls [])), W p l e { frames := 2, cells := 0, slots := 0, locals := 48 } s m [.ref q0, .int (nI (sp))].toArray below meth c H locs 0 0 (MQ below (sQv D [(q0, .inr (3, [.ref qu, .ref qa, .ref qb, .ref qc, .ref qd, .int (b2i (kn)), .int (nI (lns)), .ref qe, .ref qf, .ref qg, .ref qh])), (qu, .inl (cZ, 20, .inl (fun z9 => b2i (u z9)))), (qa, .inl (cI, 20, .inl aX)), (qb, .inl (cI, 20, .inl aY)), (qc, .inl (cI, 20, .inl bX)), (qd, .inl (cI, 20, .inl bY)), (qe, .inl (cI, 40, .inl ln)), (qf, .inl (cI, 820, .inl (fun z9 => nI (((f_R_fill u aX aY bX bY lns ln ac mn sp).1) z9)))), (qg, .inl (cI, 41, .inl (fun z9 => nI (((f_R_fill u aX aY bX bY lns ln ac mn sp).2) z9)))), (qh, .inl (cI, 861, .inl (fun z9 => nI (sm z9))))] [(cZ, .boolean), (cI, .int)] A) [.ref q0, .int (nI (sp))].toArray s 0 0 A) (F0 m 91 ls []) := by
                    clear hP hD hS hl
                    intro n2
                    induction n2 with
                    | zero =>
                      intro at2 ac2 hk2 hA2 hat2 H locs hP hD hS ls hl cont
                      refine lv_iload hx hb d_R_fill_91 (lv_at hl 5 rfl) ?_
                      refine lv_bipush (v := 20) hx hb d_R_fill_93 (by decide) ?_
                      refine lv_iload_n hx hb d_R_fill_95 rfl (lv_at hl 1 rfl) ?_
                      refine lv_imul hx hb d_R_fill_96 ?_
                      refine rtop (y := nI (20 * sp)) (pk_mul (20) (sp)) ?_
                      refine lv_icmp_le (tgt := 143) hx hb d_R_fill_97 (by decide) (fun c8 => ?_) (fun c8 => ?_)
                      · have c8a : at2 ≤ (20 * sp) := (nI_leI (a := at2) (b := 20 * sp) (by omega) (by omega)).mp c8
                        exact cont (at2, ac2) (show fx_R_fill_2 u aX aY bX bY k1 fm to at2 ac2 = (at2, ac2) from rfl).symm hat2 hA2 _ _ hP hD hS ls (lv_sub hl [0, 1, 2, 3, 4, 5] rfl)
                      · have c8a : ¬ (at2 ≤ (20 * sp)) := fun h => c8 ((nI_leI (a := at2) (b := 20 * sp) (by omega) (by omega)).mpr h)
                        omega
                    | succ n2 ih2 =>
                      intro at2 ac2 hk2 hA2 hat2 H locs hP hD hS ls hl cont
                      refine lv_iload hx hb d_R_fill_91 (lv_at hl 5 rfl) ?_
                      refine lv_bipush (v := 20) hx hb d_R_fill_93 (by decide) ?_
                      refine lv_iload_n hx hb d_R_fill_95 rfl (lv_at hl 1 rfl) ?_
                      refine lv_imul hx hb d_R_fill_96 ?_
                      refine rtop (y := nI (20 * sp)) (pk_mul (20) (sp)) ?_
                      refine lv_icmp_le (tgt := 143) hx hb d_R_fill_97 (by decide) (fun c9 => ?_) (fun c9 => ?_)
                      · have c9a : at2 ≤ (20 * sp) := (nI_leI (a := at2) (b := 20 * sp) (by omega) (by omega)).mp c9
                        omega
                      · have c9a : ¬ (at2 ≤ (20 * sp)) := fun h => c9 ((nI_leI (a := at2) (b := 20 * sp) (by omega) (by omega)).mpr h)
                        refine lv_aload_n hx hb d_R_fill_100 rfl (lv_at hl 0 rfl) ?_
                        refine lv_iload hx hb d_R_fill_101 (lv_at hl 4 rfl) ?_
                        refine lv_aload_n hx hb d_R_fill_103 rfl (lv_at hl 0 rfl) ?_
                        refine rget S hK hP 0 rfl rfl in_R 8 (by decide) kF_R_29 rfl d_R_fill_104 ?_
                        refine lv_iload hx hb d_R_fill_107 (lv_at hl 5 rfl) ?_
                        refine lv_iconst (v := 1) hx hb d_R_fill_109 (by decide) ?_
                        refine lv_isub hx hb d_R_fill_110 ?_
                        refine rtop (y := nI (at2 - 1)) (pk_sub (a := at2) (b := 1) (by omega)) ?_
                        refine rnald (j := at2 - 1) S hK hP 7 1 rfl rfl (by omega) (by first | decide | omega) d_R_fill_111 ?_
                        refine lv_iload_n hx hb d_R_fill_112 rfl (lv_at hl 2 rfl) ?_
                        refine lv_iload_n hx hb d_R_fill_113 rfl (lv_at hl 3 rfl) ?_
                        refine lv_iadd hx hb d_R_fill_114 ?_
                        refine rcallV (rest := []) (v := b2i (f_R_below u aX aY bX bY k1 (ac2 (at2 - 1)) (fm + to))) S [.int (nI (k1)), .int (nI (ac2 (at2 - 1))), .int ((fm + to))] hK hP [0, 1, 2, 3, 4, 5, 6, 7, 8, 9] rfl [0, 1] rfl (c_R_below l D q0 qu qa qb qc qd qe qf qg qh cZ cI u aX aY bX bY kn lns ln ac2 mn1 sm k1 (ac2 (at2 - 1)) (fm + to) (by omega) (hA2 _)) i_R_below kL_R_94 ⟨Nat.le_of_ble_eq_true rfl, Nat.le_of_ble_eq_true rfl⟩ (by exact ⟨Nat.zero_le _, Nat.zero_le _⟩) (q0 := 0) (ci := 3) rfl rfl rfl hl.1 rfl (Nat.le_of_ble_eq_true rfl) d_R_fill_115 ?_
                        refine lv_if_eq (tgt := 143) hx hb d_R_fill_118 (by decide) (fun c10 => ?_) (fun c10 => ?_)
                        · have c10a : ¬ (f_R_below u aX aY bX bY k1 (ac2 (at2 - 1)) (fm + to) = true) := b2n (b2i_eq0.mp c10)
                          exact cont (at2, ac2) (show fb_R_fill_2 u aX aY bX bY k1 fm to (fl_R_fill_2 u aX aY bX bY k1 fm to n2) at2 ac2 = (at2, ac2) from by unfold fb_R_fill_2; rw [if_neg c10a]).symm hat2 hA2 _ _ hP hD hS ls (lv_sub hl [0, 1, 2, 3, 4, 5] rfl)
                        · have c10a : f_R_below u aX aY bX bY k1 (ac2 (at2 - 1)) (fm + to) = true := b2i_ne0.mp c10
                          refine lv_aload_n hx hb d_R_fill_121 rfl (lv_at hl 0 rfl) ?_
                          refine rget S hK hP 0 rfl rfl in_R 8 (by decide) kF_R_29 rfl d_R_fill_122 ?_
                          refine lv_iload hx hb d_R_fill_125 (lv_at hl 5 rfl) ?_
                          refine lv_aload_n hx hb d_R_fill_127 rfl (lv_at hl 0 rfl) ?_
                          refine rget S hK hP 0 rfl rfl in_R 8 (by decide) kF_R_29 rfl d_R_fill_128 ?_
                          refine lv_iload hx hb d_R_fill_131 (lv_at hl 5 rfl) ?_
                          refine lv_iconst (v := 1) hx hb d_R_fill_133 (by decide) ?_
                          refine lv_isub hx hb d_R_fill_134 ?_
                          refine rtop (y := nI (at2 - 1)) (pk_sub (a := at2) (b := 1) (by omega)) ?_
                          refine rnald (j := at2 - 1) S hK hP 7 1 rfl rfl (by omega) (by first | decide | omega) d_R_fill_135 ?_
                          refine rnast (j := at2) (x := (ac2 (at2 - 1))) S hK hP hD hS 7 1 rfl rfl (by omega) (by first | decide | omega) d_R_fill_136 (fun H locs hP hD hS => ?_)
                          have hP : va_P D CLS [(q0, .inr (3, [.ref qu, .ref qa, .ref qb, .ref qc, .ref qd, .int (b2i (kn)), .int (nI (lns)), .ref qe, .ref qf, .ref qg, .ref qh])), (qu, .inl (cZ, 20, .inl (fun z9 => b2i (u z9)))), (qa, .inl (cI, 20, .inl aX)), (qb, .inl (cI, 20, .inl aY)), (qc, .inl (cI, 20, .inl bX)), (qd, .inl (cI, 20, .inl bY)), (qe, .inl (cI, 40, .inl ln)), (qf, .inl (cI, 820, .inl (fun z9 => nI ((updN ac2 at2 (ac2 (at2 - 1))) z9)))), (qg, .inl (cI, 41, .inl (fun z9 => nI (mn1 z9)))), (qh, .inl (cI, 861, .inl (fun z9 => nI (sm z9))))] H := hP
                          have hD : va_D A [(q0, .inr (3, [.ref qu, .ref qa, .ref qb, .ref qc, .ref qd, .int (b2i (kn)), .int (nI (lns)), .ref qe, .ref qf, .ref qg, .ref qh])), (qu, .inl (cZ, 20, .inl (fun z9 => b2i (u z9)))), (qa, .inl (cI, 20, .inl aX)), (qb, .inl (cI, 20, .inl aY)), (qc, .inl (cI, 20, .inl bX)), (qd, .inl (cI, 20, .inl bY)), (qe, .inl (cI, 40, .inl ln)), (qf, .inl (cI, 820, .inl (fun z9 => nI ((updN ac2 at2 (ac2 (at2 - 1))) z9)))), (qg, .inl (cI, 41, .inl (fun z9 => nI (mn1 z9)))), (qh, .inl (cI, 861, .inl (fun z9 => nI (sm z9))))] := hD
                          refine lv_iinc (v := nI (at2 - 1)) (lv' := [(5, .int (nI (at2 - 1))), (0, .ref q0), (1, .int (nI (sp))), (2, .int fm), (3, .int to), (4, .int (nI (k1)))]) hx hb d_R_fill_137 hl (k := 5) rfl (sb_m1 (p := at2) (by omega)) (by decide) rfl (fun ls hl => ?_)
                          refine lv_goto (tgt := 91) hx hb d_R_fill_140 (by decide) ?_
                          exact ih2 (at2 - 1) (updN ac2 at2 (ac2 (at2 - 1))) (by omega) (updN_lt hA2 (hA2 _)) (by omega) _ _ (hP.sub [0, 1, 2, 3, 4, 5, 6, 7, 8, 9] rfl) (hD.sub [0, 1, 2, 3, 4, 5, 6, 7, 8, 9] (by decide) rfl) hS ls (lv_sub hl [1, 2, 3, 4, 5, 0] rfl) (fun res hres => cont res (hres.trans (show fb_R_fill_2 u aX aY bX bY k1 fm to (fl_R_fill_2 u aX aY bX bY k1 fm to n2) at2 ac2 = (fl_R_fill_2 u aX aY bX bY k1 fm to n2 (at2 - 1) (updN ac2 at2 (ac2 (at2 - 1)))) from by unfold fb_R_fill_2; rw [if_pos c10a]).symm))
                  refine key2 (mn1 sp) ((20 * sp) + (mn1 sp)) ac1 (by omega) hA1 (by omega) _ _ hP hD hS ls (lv_sub hl [1, 2, 3, 4, 5, 0] rfl) (fun res hres hp2a hp2b H locs hP hD hS ls hl => ?_)
                  subst hres
                  have hP : va_P D CLS [(q0, .inr (3, [.ref qu, .ref qa, .ref qb, .ref qc, .ref qd, .int (b2i (kn)), .int (nI (lns)), .ref qe, .ref qf, .ref qg, .ref qh])), (qu, .inl (cZ, 20, .inl (fun z9 => b2i (u z9)))), (qa, .inl (cI, 20, .inl aX)), (qb, .inl (cI, 20, .inl aY)), (qc, .inl (cI, 20, .inl bX)), (qd, .inl (cI, 20, .inl bY)), (qe, .inl (cI, 40, .inl ln)), (qf, .inl (cI, 820, .inl (fun z9 => nI (((fl_R_fill_2 u aX aY bX bY k1 fm to (mn1 sp) ((20 * sp) + (mn1 sp)) ac1).2) z9)))), (qg, .inl (cI, 41, .inl (fun z9 => nI (mn1 z9)))), (qh, .inl (cI, 861, .inl (fun z9 => nI (sm z9))))] H := hP
                  have hD : va_D A [(q0, .inr (3, [.ref qu, .ref qa, .ref qb, .ref qc, .ref qd, .int (b2i (kn)), .int (nI (lns)), .ref qe, .ref qf, .ref qg, .ref qh])), (qu, .inl (cZ, 20, .inl (fun z9 => b2i (u z9)))), (qa, .inl (cI, 20, .inl aX)), (qb, .inl (cI, 20, .inl aY)), (qc, .inl (cI, 20, .inl bX)), (qd, .inl (cI, 20, .inl bY)), (qe, .inl (cI, 40, .inl ln)), (qf, .inl (cI, 820, .inl (fun z9 => nI (((fl_R_fill_2 u aX aY bX bY k1 fm to (mn1 sp) ((20 * sp) + (mn1 sp)) ac1).2) z9)))), (qg, .inl (cI, 41, .inl (fun z9 => nI (mn1 z9)))), (qh, .inl (cI, 861, .inl (fun z9 => nI (sm z9))))] := hD
                  have hl : lv_has ls 6 [(0, .ref q0), (1, .int (nI (sp))), (2, .int fm), (3, .int to), (4, .int (nI (k1))), (5, .int (nI ((fl_R_fill_2 u aX aY bX bY k1 fm to (mn1 sp) ((20 * sp) + (mn1 sp)) ac1).1)))] := hl
                  refine lv_aload_n hx hb d_R_fill_143 rfl (lv_at hl 0 rfl) ?_
                  refine rget S hK hP 0 rfl rfl in_R 8 (by decide) kF_R_29 rfl d_R_fill_144 ?_
                  refine lv_iload hx hb d_R_fill_147 (lv_at hl 5 rfl) ?_
                  refine lv_iload hx hb d_R_fill_149 (lv_at hl 4 rfl) ?_
                  refine rnast (j := (fl_R_fill_2 u aX aY bX bY k1 fm to (mn1 sp) ((20 * sp) + (mn1 sp)) ac1).1) (x := k1) S hK hP hD hS 7 1 rfl rfl (by omega) (by first | decide | omega) d_R_fill_151 (fun H locs hP hD hS => ?_)
                  have hP : va_P D CLS [(q0, .inr (3, [.ref qu, .ref qa, .ref qb, .ref qc, .ref qd, .int (b2i (kn)), .int (nI (lns)), .ref qe, .ref qf, .ref qg, .ref qh])), (qu, .inl (cZ, 20, .inl (fun z9 => b2i (u z9)))), (qa, .inl (cI, 20, .inl aX)), (qb, .inl (cI, 20, .inl aY)), (qc, .inl (cI, 20, .inl bX)), (qd, .inl (cI, 20, .inl bY)), (qe, .inl (cI, 40, .inl ln)), (qf, .inl (cI, 820, .inl (fun z9 => nI ((updN ((fl_R_fill_2 u aX aY bX bY k1 fm to (mn1 sp) ((20 * sp) + (mn1 sp)) ac1).2) ((fl_R_fill_2 u aX aY bX bY k1 fm to (mn1 sp) ((20 * sp) + (mn1 sp)) ac1).1) k1) z9)))), (qg, .inl (cI, 41, .inl (fun z9 => nI (mn1 z9)))), (qh, .inl (cI, 861, .inl (fun z9 => nI (sm z9))))] H := hP
                  have hD : va_D A [(q0, .inr (3, [.ref qu, .ref qa, .ref qb, .ref qc, .ref qd, .int (b2i (kn)), .int (nI (lns)), .ref qe, .ref qf, .ref qg, .ref qh])), (qu, .inl (cZ, 20, .inl (fun z9 => b2i (u z9)))), (qa, .inl (cI, 20, .inl aX)), (qb, .inl (cI, 20, .inl aY)), (qc, .inl (cI, 20, .inl bX)), (qd, .inl (cI, 20, .inl bY)), (qe, .inl (cI, 40, .inl ln)), (qf, .inl (cI, 820, .inl (fun z9 => nI ((updN ((fl_R_fill_2 u aX aY bX bY k1 fm to (mn1 sp) ((20 * sp) + (mn1 sp)) ac1).2) ((fl_R_fill_2 u aX aY bX bY k1 fm to (mn1 sp) ((20 * sp) + (mn1 sp)) ac1).1) k1) z9)))), (qg, .inl (cI, 41, .inl (fun z9 => nI (mn1 z9)))), (qh, .inl (cI, 861, .inl (fun z9 => nI (sm z9))))] := hD
                  refine lv_aload_n hx hb d_R_fill_152 rfl (lv_at hl 0 rfl) ?_
                  refine rget S hK hP 0 rfl rfl in_R 9 (by decide) kF_R_32 rfl d_R_fill_153 ?_
                  refine lv_iload_n hx hb d_R_fill_156 rfl (lv_at hl 1 rfl) ?_
                  refine lv_dup2_11 hx hb d_R_fill_157 rfl rfl ?_
                  refine rnald (j := sp) S hK hP 8 1 rfl rfl (by omega) (by first | decide | omega) d_R_fill_158 ?_
                  refine lv_iconst (v := 1) hx hb d_R_fill_159 (by decide) ?_
                  refine lv_iadd hx hb d_R_fill_160 ?_
                  refine rtop (y := nI ((mn1 sp) + 1)) (nI_add (mn1 sp) (1)) ?_
                  refine rnast (j := sp) (x := ((mn1 sp) + 1)) S hK hP hD hS 8 1 rfl rfl (by omega) (by first | decide | omega) d_R_fill_161 (fun H locs hP hD hS => ?_)
                  have hP : va_P D CLS [(q0, .inr (3, [.ref qu, .ref qa, .ref qb, .ref qc, .ref qd, .int (b2i (kn)), .int (nI (lns)), .ref qe, .ref qf, .ref qg, .ref qh])), (qu, .inl (cZ, 20, .inl (fun z9 => b2i (u z9)))), (qa, .inl (cI, 20, .inl aX)), (qb, .inl (cI, 20, .inl aY)), (qc, .inl (cI, 20, .inl bX)), (qd, .inl (cI, 20, .inl bY)), (qe, .inl (cI, 40, .inl ln)), (qf, .inl (cI, 820, .inl (fun z9 => nI ((updN ((fl_R_fill_2 u aX aY bX bY k1 fm to (mn1 sp) ((20 * sp) + (mn1 sp)) ac1).2) ((fl_R_fill_2 u aX aY bX bY k1 fm to (mn1 sp) ((20 * sp) + (mn1 sp)) ac1).1) k1) z9)))), (qg, .inl (cI, 41, .inl (fun z9 => nI ((updN mn1 sp ((mn1 sp) + 1)) z9)))), (qh, .inl (cI, 861, .inl (fun z9 => nI (sm z9))))] H := hP
                  have hD : va_D A [(q0, .inr (3, [.ref qu, .ref qa, .ref qb, .ref qc, .ref qd, .int (b2i (kn)), .int (nI (lns)), .ref qe, .ref qf, .ref qg, .ref qh])), (qu, .inl (cZ, 20, .inl (fun z9 => b2i (u z9)))), (qa, .inl (cI, 20, .inl aX)), (qb, .inl (cI, 20, .inl aY)), (qc, .inl (cI, 20, .inl bX)), (qd, .inl (cI, 20, .inl bY)), (qe, .inl (cI, 40, .inl ln)), (qf, .inl (cI, 820, .inl (fun z9 => nI ((updN ((fl_R_fill_2 u aX aY bX bY k1 fm to (mn1 sp) ((20 * sp) + (mn1 sp)) ac1).2) ((fl_R_fill_2 u aX aY bX bY k1 fm to (mn1 sp) ((20 * sp) + (mn1 sp)) ac1).1) k1) z9)))), (qg, .inl (cI, 41, .inl (fun z9 => nI ((updN mn1 sp ((mn1 sp) + 1)) z9)))), (qh, .inl (cI, 861, .inl (fun z9 => nI (sm z9))))] := hD
                  refine lv_iinc (v := nI (k1 + 1)) (lv' := [(4, .int (nI (k1 + 1))), (0, .ref q0), (1, .int (nI (sp))), (2, .int fm), (3, .int to), (5, .int (nI ((fl_R_fill_2 u aX aY bX bY k1 fm to (mn1 sp) ((20 * sp) + (mn1 sp)) ac1).1)))]) hx hb d_R_fill_162 hl (k := 4) rfl (nI_1 (k1)) (by decide) rfl (fun ls hl => ?_)
                  refine lv_goto (tgt := 39) hx hb d_R_fill_165 (by decide) ?_
                  exact ih1 (k1 + 1) fm to (updN ((fl_R_fill_2 u aX aY bX bY k1 fm to (mn1 sp) ((20 * sp) + (mn1 sp)) ac1).2) ((fl_R_fill_2 u aX aY bX bY k1 fm to (mn1 sp) ((20 * sp) + (mn1 sp)) ac1).1) k1) (updN mn1 sp ((mn1 sp) + 1)) (by omega) (by first | exact hA1 | exact updN_lt hp2b (by omega)) (by first | omega | (rw [updN_self]; omega)) _ _ (hP.sub [0, 1, 2, 3, 4, 5, 6, 7, 8, 9] rfl) (hD.sub [0, 1, 2, 3, 4, 5, 6, 7, 8, 9] (by decide) rfl) hS ls (lv_sub hl [1, 2, 3, 4, 0] rfl) (hf.trans (show fb_R_fill_1 u aX aY bX bY sp (fl_R_fill_1 u aX aY bX bY sp n1) k1 fm to ac1 mn1 = (fl_R_fill_1 u aX aY bX bY sp n1 (k1 + 1) fm to (updN ((fl_R_fill_2 u aX aY bX bY k1 fm to (mn1 sp) ((20 * sp) + (mn1 sp)) ac1).2) ((fl_R_fill_2 u aX aY bX bY k1 fm to (mn1 sp) ((20 * sp) + (mn1 sp)) ac1).1) k1) (updN mn1 sp ((mn1 sp) + 1))) from by unfold fb_R_fill_1; rw [if_pos c5a, if_neg c6a, if_neg c7a]))
      exact key1 20 0 (ln (sp - 1)) (ln sp) ac (updN mn sp 0) (by omega) hAc (Nat.le_of_eq (updN_self _ _ _)) _ _ hP hD hS ls (lv_sub hl [3, 4, 2, 1, 0] rfl) (show f_R_fill u aX aY bX bY lns ln ac mn sp = (fl_R_fill_1 u aX aY bX bY sp 20 0 (ln (sp - 1)) (ln sp) ac (updN mn sp 0)) from by unfold f_R_fill; rw [if_neg c1a, if_neg c2a])
    · have c2a : sp = lns := (nI_eq (a := sp) (b := lns) (by omega) (by omega)).mp c2
      have eqf := (show f_R_fill u aX aY bX bY lns ln ac mn sp = (ac, updN mn sp 0) from by unfold f_R_fill; rw [if_neg c1a, if_pos c2a])
      exact rretV S hr hlk (by rw [eqf]) hP hK hD hS d_R_fill_19
def fx_R_cellAt_1 (u : Nat → Bool) (aX : Nat → Int32) (aY : Nat → Int32) (bX : Nat → Int32) (bY : Nat → Int32) (ac : Nat → Nat) (mn : Nat → Nat) (sp : Nat) (x : Int32) (up : Int32) (i1 : Nat) (fo : Int32) : Int32 := fo
def fb_R_cellAt_1 (u : Nat → Bool) (aX : Nat → Int32) (aY : Nat → Int32) (bX : Nat → Int32) (bY : Nat → Int32) (ac : Nat → Nat) (mn : Nat → Nat) (sp : Nat) (x : Int32) (up : Int32) (rec : (Nat) → (Int32) → Int32) (i1 : Nat) (fo : Int32) : Int32 := if f_R_less (f_R_floorRise u aX aY bX bY ac sp i1 x) (f_R_floorWidth u aX aY bX bY ac sp i1) up 2 = true then (if f_R_less up 2 (f_R_roofRise u aX aY bX bY ac mn sp i1 x) (f_R_roofWidth u aX aY bX bY ac mn sp i1) = true then (rec (i1 + 1) (nI ((21 * sp) + i1))) else (rec (i1 + 1) fo)) else (rec (i1 + 1) fo)
def fl_R_cellAt_1 (u : Nat → Bool) (aX : Nat → Int32) (aY : Nat → Int32) (bX : Nat → Int32) (bY : Nat → Int32) (ac : Nat → Nat) (mn : Nat → Nat) (sp : Nat) (x : Int32) (up : Int32) : Nat → (Nat) → (Int32) → Int32
  | 0, i1, fo => fx_R_cellAt_1 u aX aY bX bY ac mn sp x up i1 fo
  | n1 + 1, i1, fo => fb_R_cellAt_1 u aX aY bX bY ac mn sp x up (fl_R_cellAt_1 u aX aY bX bY ac mn sp x up n1) i1 fo
def f_R_cellAt (u : Nat → Bool) (aX : Nat → Int32) (aY : Nat → Int32) (bX : Nat → Int32) (bY : Nat → Int32) (ac : Nat → Nat) (mn : Nat → Nat) (sp : Nat) (x : Int32) (up : Int32) : Int32 := fl_R_cellAt_1 u aX aY bX bY ac mn sp x up (mn sp + 1) 0 (-1)
theorem i_R_cellAt : inV y_R_cellAt b_R_cellAt 7 (some .int) 3 := ⟨kM_y_R_cellAt, kV_y_R_cellAt, kI_R, kY_y_R_cellAt, by decide +kernel⟩
set_option maxHeartbeats 4000000 in
set_option maxRecDepth 100000 in
theorem c_R_cellAt (l : Launch) (D : va_G) (q0 qu qa qb qc qd qe qf qg qh : Nat) (cZ cI : ClassId) (u : Nat → Bool) (aX aY bX bY : Nat → Int32) (kn : Bool) (lns : Nat) (ln : Nat → Int32) (ac mn sm : Nat → Nat) (sp : Nat) (x : Int32) (up : Int32) (hsp : sp < 41) (hAc : ∀ i, ac i < 20) (hMn : ∀ i, mn i ≤ 20) : PM l y_R_cellAt b_R_cellAt 7 (some .int) 2 45 D (refW q0 qu qa qb qc qd qe qf qg qh cZ cI u aX aY bX bY kn lns ln ac mn sm) [(cZ, .boolean), (cI, .int)] [.ref q0, .int (nI (sp)), .int x, .int up] (f_R_cellAt u aX aY bX bY ac mn sp x up) := by
  refine pMet rfl (fun p e s m below meth c S hr hlk hP hK ls hl => ?_) (Nat.le_of_ble_eq_true rfl)
  have hx := S.1
  have hb := S.2.1
  have hl : lv_has ls 7 [(0, .ref q0), (1, .int (nI (sp))), (2, .int x), (3, .int up)] := hl
  have hms := hMn sp
  refine lv_iconst (v := (-1)) hx hb d_R_cellAt_0 (by decide) ?_
  refine lv_istore (lv' := [(4, .int ((-1))), (0, .ref q0), (1, .int (nI (sp))), (2, .int x), (3, .int up)]) hx hb d_R_cellAt_1 hl (by decide) rfl (fun ls hl => ?_)
  refine lv_iconst (v := 0) hx hb d_R_cellAt_3 (by decide) ?_
  refine lv_istore (lv' := [(5, .int 0), (4, .int ((-1))), (0, .ref q0), (1, .int (nI (sp))), (2, .int x), (3, .int up)]) hx hb d_R_cellAt_4 hl (by decide) rfl (fun ls hl => ?_)
  have key1 : ∀ (n1 : Nat) (i1 : Nat) (fo : Int32) (hk1 : i1 + n1 = mn sp + 1) (ls : Array Slot) (hl : lv_has ls 7 [(0, .ref q0), (1, .int (nI (sp))), (2, .int x), (3, .int up), (4, .int fo), (5, .int (nI (i1)))]) (hf : f_R_cellAt u aX aY bX bY ac mn sp x up = fl_R_cellAt_1 u aX aY bX bY ac mn sp x up n1 i1 fo), W p l e { frames := 2, cells := 0, slots := 0, locals := 45 } s m [.ref q0, .int (nI (sp)), .int x, .int up].toArray below meth c s.heap [] 0 0 (MQ below (pQ ((f_R_cellAt u aX aY bX bY ac mn sp x up))) [.ref q0, .int (nI (sp)), .int x, .int up].toArray s 0 0 (fun _ => False)) (F0 m 6 ls []) := by
    clear hl
    intro n1
    induction n1 with
    | zero =>
      intro i1 fo hk1 ls hl hf
      refine lv_iload hx hb d_R_cellAt_6 (lv_at hl 5 rfl) ?_
      refine lv_aload_n hx hb d_R_cellAt_8 rfl (lv_at hl 0 rfl) ?_
      refine rget S hK hP 0 rfl rfl in_R 9 (by decide) kF_R_32 rfl d_R_cellAt_9 ?_
      refine lv_iload_n hx hb d_R_cellAt_12 rfl (lv_at hl 1 rfl) ?_
      refine rnald (j := sp) S hK hP 8 1 rfl rfl (by omega) (by first | decide | omega) d_R_cellAt_13 ?_
      refine lv_icmp_gt (tgt := 95) hx hb d_R_cellAt_14 (by decide) (fun c1 => ?_) (fun c1 => ?_)
      · have c1a : (mn sp) < i1 := (nI_ltI (a := mn sp) (b := i1) (Nat.lt_of_le_of_lt (hMn _) (by decide)) (by omega)).mp c1
        refine lv_iload hx hb d_R_cellAt_95 (lv_at hl 4 rfl) ?_
        exact rret S hr hlk (v := fo) (hf.trans (show fx_R_cellAt_1 u aX aY bX bY ac mn sp x up i1 fo = fo from rfl)).symm d_R_cellAt_97
      · have c1a : ¬ ((mn sp) < i1) := fun h => c1 ((nI_ltI (a := mn sp) (b := i1) (Nat.lt_of_le_of_lt (hMn _) (by decide)) (by omega)).mpr h)
        omega
    | succ n1 ih1 =>
      intro i1 fo hk1 ls hl hf
      refine lv_iload hx hb d_R_cellAt_6 (lv_at hl 5 rfl) ?_
      refine lv_aload_n hx hb d_R_cellAt_8 rfl (lv_at hl 0 rfl) ?_
      refine rget S hK hP 0 rfl rfl in_R 9 (by decide) kF_R_32 rfl d_R_cellAt_9 ?_
      refine lv_iload_n hx hb d_R_cellAt_12 rfl (lv_at hl 1 rfl) ?_
      refine rnald (j := sp) S hK hP 8 1 rfl rfl (by omega) (by first | decide | omega) d_R_cellAt_13 ?_
      refine lv_icmp_gt (tgt := 95) hx hb d_R_cellAt_14 (by decide) (fun c2 => ?_) (fun c2 => ?_)
      · have c2a : (mn sp) < i1 := (nI_ltI (a := mn sp) (b := i1) (Nat.lt_of_le_of_lt (hMn _) (by decide)) (by omega)).mp c2
        omega
      · have c2a : ¬ ((mn sp) < i1) := fun h => c2 ((nI_ltI (a := mn sp) (b := i1) (Nat.lt_of_le_of_lt (hMn _) (by decide)) (by omega)).mpr h)
        refine lv_aload_n hx hb d_R_cellAt_17 rfl (lv_at hl 0 rfl) ?_
        refine lv_iload_n hx hb d_R_cellAt_18 rfl (lv_at hl 1 rfl) ?_
        refine lv_iload hx hb d_R_cellAt_19 (lv_at hl 5 rfl) ?_
        refine lv_iload_n hx hb d_R_cellAt_21 rfl (lv_at hl 2 rfl) ?_
        refine rcallV (rest := []) (v := (f_R_floorRise u aX aY bX bY ac sp i1 x)) S [.int (nI (sp)), .int (nI (i1)), .int x] hK hP [0, 1, 2, 3, 4, 5, 6, 7, 8, 9] rfl [0, 1] rfl (c_R_floorRise l D q0 qu qa qb qc qd qe qf qg qh cZ cI u aX aY bX bY kn lns ln ac mn sm sp i1 x (by omega) (by omega) (by assumption)) i_R_floorRise kL_R_97 ⟨Nat.le_of_ble_eq_true rfl, Nat.le_of_ble_eq_true rfl⟩ (by exact ⟨Nat.zero_le _, Nat.zero_le _⟩) (q0 := 0) (ci := 3) rfl rfl rfl hl.1 rfl (Nat.le_of_ble_eq_true rfl) d_R_cellAt_22 ?_
        refine lv_aload_n hx hb d_R_cellAt_25 rfl (lv_at hl 0 rfl) ?_
        refine lv_iload_n hx hb d_R_cellAt_26 rfl (lv_at hl 1 rfl) ?_
        refine lv_iload hx hb d_R_cellAt_27 (lv_at hl 5 rfl) ?_
        refine rcallV (rest := [.int ((f_R_floorRise u aX aY bX bY ac sp i1 x))]) (v := (f_R_floorWidth u aX aY bX bY ac sp i1)) S [.int (nI (sp)), .int (nI (i1))] hK hP [0, 1, 2, 3, 4, 5, 6, 7, 8, 9] rfl [0, 1] rfl (c_R_floorWidth l D q0 qu qa qb qc qd qe qf qg qh cZ cI u aX aY bX bY kn lns ln ac mn sm sp i1 (by omega) (by omega) (by assumption)) i_R_floorWidth kL_R_100 ⟨Nat.le_of_ble_eq_true rfl, Nat.le_of_ble_eq_true rfl⟩ (by exact ⟨Nat.zero_le _, Nat.zero_le _⟩) (q0 := 0) (ci := 3) rfl rfl rfl hl.1 rfl (Nat.le_of_ble_eq_true rfl) d_R_cellAt_29 ?_
        refine lv_iload_n hx hb d_R_cellAt_32 rfl (lv_at hl 3 rfl) ?_
        refine lv_iconst (v := 2) hx hb d_R_cellAt_33 (by decide) ?_
        refine rcallS (rest := []) (v := b2i (f_R_less (f_R_floorRise u aX aY bX bY ac sp i1 x) (f_R_floorWidth u aX aY bX bY ac sp i1) up 2)) S [.int ((f_R_floorRise u aX aY bX bY ac sp i1 x)), .int ((f_R_floorWidth u aX aY bX bY ac sp i1)), .int up, .int 2] hK hP [] rfl [] rfl (c_R_less l D (f_R_floorRise u aX aY bX bY ac sp i1 x) (f_R_floorWidth u aX aY bX bY ac sp i1) up 2 ) i_R_less rfl kL_R_90 ⟨Nat.le_of_ble_eq_true rfl, Nat.le_of_ble_eq_true rfl⟩ (by exact ⟨Nat.zero_le _, Nat.zero_le _⟩) hl.1 rfl (Nat.le_of_ble_eq_true rfl) d_R_cellAt_34 ?_
        refine lv_if_eq (tgt := 67) hx hb d_R_cellAt_37 (by decide) (fun c3 => ?_) (fun c3 => ?_)
        · have c3a : ¬ (f_R_less (f_R_floorRise u aX aY bX bY ac sp i1 x) (f_R_floorWidth u aX aY bX bY ac sp i1) up 2 = true) := b2n (b2i_eq0.mp c3)
          refine lv_iconst (v := 0) hx hb d_R_cellAt_67 (by decide) ?_
          refine lv_istore (lv' := [(6, .int 0), (0, .ref q0), (1, .int (nI (sp))), (2, .int x), (3, .int up), (4, .int fo), (5, .int (nI (i1)))]) hx hb d_R_cellAt_68 hl (by decide) rfl (fun ls hl => ?_)
          refine lv_iload hx hb d_R_cellAt_70 (lv_at hl 0 rfl) ?_
          refine lv_if_eq (tgt := 85) hx hb d_R_cellAt_72 (by decide) (fun _ => ?_) (fun h => absurd (by decide) h)
          refine lv_iload hx hb d_R_cellAt_85 (lv_at hl 5 rfl) ?_
          refine lv_istore (lv' := [(4, .int fo), (6, .int 0), (0, .ref q0), (1, .int (nI (sp))), (2, .int x), (3, .int up), (5, .int (nI (i1)))]) hx hb d_R_cellAt_87 hl (by decide) rfl (fun ls hl => ?_)
          refine lv_iinc (v := nI (i1 + 1)) (lv' := [(5, .int (nI (i1 + 1))), (4, .int fo), (6, .int 0), (0, .ref q0), (1, .int (nI (sp))), (2, .int x), (3, .int up)]) hx hb d_R_cellAt_89 hl (k := 6) rfl (nI_1 (i1)) (by decide) rfl (fun ls hl => ?_)
          refine lv_goto (tgt := 6) hx hb d_R_cellAt_92 (by decide) ?_
          exact ih1 (i1 + 1) fo (by omega) ls (lv_sub hl [3, 4, 5, 6, 1, 0] rfl) (hf.trans (show fb_R_cellAt_1 u aX aY bX bY ac mn sp x up (fl_R_cellAt_1 u aX aY bX bY ac mn sp x up n1) i1 fo = (fl_R_cellAt_1 u aX aY bX bY ac mn sp x up n1 (i1 + 1) fo) from by unfold fb_R_cellAt_1; rw [if_neg c3a]))
        · have c3a : f_R_less (f_R_floorRise u aX aY bX bY ac sp i1 x) (f_R_floorWidth u aX aY bX bY ac sp i1) up 2 = true := b2i_ne0.mp c3
          refine lv_iload_n hx hb d_R_cellAt_40 rfl (lv_at hl 3 rfl) ?_
          refine lv_iconst (v := 2) hx hb d_R_cellAt_41 (by decide) ?_
          refine lv_aload_n hx hb d_R_cellAt_42 rfl (lv_at hl 0 rfl) ?_
          refine lv_iload_n hx hb d_R_cellAt_43 rfl (lv_at hl 1 rfl) ?_
          refine lv_iload hx hb d_R_cellAt_44 (lv_at hl 5 rfl) ?_
          refine lv_iload_n hx hb d_R_cellAt_46 rfl (lv_at hl 2 rfl) ?_
          refine rcallV (rest := [.int 2, .int up]) (v := (f_R_roofRise u aX aY bX bY ac mn sp i1 x)) S [.int (nI (sp)), .int (nI (i1)), .int x] hK hP [0, 1, 2, 3, 4, 5, 6, 7, 8, 9] rfl [0, 1] rfl (c_R_roofRise l D q0 qu qa qb qc qd qe qf qg qh cZ cI u aX aY bX bY kn lns ln ac mn sm sp i1 x (by omega) (by omega) (by assumption) (by assumption) (by omega)) i_R_roofRise kL_R_103 ⟨Nat.le_of_ble_eq_true rfl, Nat.le_of_ble_eq_true rfl⟩ (by exact ⟨Nat.zero_le _, Nat.zero_le _⟩) (q0 := 0) (ci := 3) rfl rfl rfl hl.1 rfl (Nat.le_of_ble_eq_true rfl) d_R_cellAt_47 ?_
          refine lv_aload_n hx hb d_R_cellAt_50 rfl (lv_at hl 0 rfl) ?_
          refine lv_iload_n hx hb d_R_cellAt_51 rfl (lv_at hl 1 rfl) ?_
          refine lv_iload hx hb d_R_cellAt_52 (lv_at hl 5 rfl) ?_
          refine rcallV (rest := [.int ((f_R_roofRise u aX aY bX bY ac mn sp i1 x)), .int 2, .int up]) (v := (f_R_roofWidth u aX aY bX bY ac mn sp i1)) S [.int (nI (sp)), .int (nI (i1))] hK hP [0, 1, 2, 3, 4, 5, 6, 7, 8, 9] rfl [0, 1] rfl (c_R_roofWidth l D q0 qu qa qb qc qd qe qf qg qh cZ cI u aX aY bX bY kn lns ln ac mn sm sp i1 (by omega) (by omega) (by assumption) (by assumption) (by omega)) i_R_roofWidth kL_R_106 ⟨Nat.le_of_ble_eq_true rfl, Nat.le_of_ble_eq_true rfl⟩ (by exact ⟨Nat.zero_le _, Nat.zero_le _⟩) (q0 := 0) (ci := 3) rfl rfl rfl hl.1 rfl (Nat.le_of_ble_eq_true rfl) d_R_cellAt_54 ?_
          refine rcallS (rest := []) (v := b2i (f_R_less up 2 (f_R_roofRise u aX aY bX bY ac mn sp i1 x) (f_R_roofWidth u aX aY bX bY ac mn sp i1))) S [.int up, .int 2, .int ((f_R_roofRise u aX aY bX bY ac mn sp i1 x)), .int ((f_R_roofWidth u aX aY bX bY ac mn sp i1))] hK hP [] rfl [] rfl (c_R_less l D up 2 (f_R_roofRise u aX aY bX bY ac mn sp i1 x) (f_R_roofWidth u aX aY bX bY ac mn sp i1) ) i_R_less rfl kL_R_90 ⟨Nat.le_of_ble_eq_true rfl, Nat.le_of_ble_eq_true rfl⟩ (by exact ⟨Nat.zero_le _, Nat.zero_le _⟩) hl.1 rfl (Nat.le_of_ble_eq_true rfl) d_R_cellAt_57 ?_
          refine lv_if_eq (tgt := 67) hx hb d_R_cellAt_60 (by decide) (fun c5 => ?_) (fun c5 => ?_)
          · have c5a : ¬ (f_R_less up 2 (f_R_roofRise u aX aY bX bY ac mn sp i1 x) (f_R_roofWidth u aX aY bX bY ac mn sp i1) = true) := b2n (b2i_eq0.mp c5)
            refine lv_iconst (v := 0) hx hb d_R_cellAt_67 (by decide) ?_
            refine lv_istore (lv' := [(6, .int 0), (0, .ref q0), (1, .int (nI (sp))), (2, .int x), (3, .int up), (4, .int fo), (5, .int (nI (i1)))]) hx hb d_R_cellAt_68 hl (by decide) rfl (fun ls hl => ?_)
            refine lv_iload hx hb d_R_cellAt_70 (lv_at hl 0 rfl) ?_
            refine lv_if_eq (tgt := 85) hx hb d_R_cellAt_72 (by decide) (fun _ => ?_) (fun h => absurd (by decide) h)
            refine lv_iload hx hb d_R_cellAt_85 (lv_at hl 5 rfl) ?_
            refine lv_istore (lv' := [(4, .int fo), (6, .int 0), (0, .ref q0), (1, .int (nI (sp))), (2, .int x), (3, .int up), (5, .int (nI (i1)))]) hx hb d_R_cellAt_87 hl (by decide) rfl (fun ls hl => ?_)
            refine lv_iinc (v := nI (i1 + 1)) (lv' := [(5, .int (nI (i1 + 1))), (4, .int fo), (6, .int 0), (0, .ref q0), (1, .int (nI (sp))), (2, .int x), (3, .int up)]) hx hb d_R_cellAt_89 hl (k := 6) rfl (nI_1 (i1)) (by decide) rfl (fun ls hl => ?_)
            refine lv_goto (tgt := 6) hx hb d_R_cellAt_92 (by decide) ?_
            exact ih1 (i1 + 1) fo (by omega) ls (lv_sub hl [3, 4, 5, 6, 1, 0] rfl) (hf.trans (show fb_R_cellAt_1 u aX aY bX bY ac mn sp x up (fl_R_cellAt_1 u aX aY bX bY ac mn sp x up n1) i1 fo = (fl_R_cellAt_1 u aX aY bX bY ac mn sp x up n1 (i1 + 1) fo) from by unfold fb_R_cellAt_1; rw [if_pos c3a, if_neg c5a]))
          · have c5a : f_R_less up 2 (f_R_roofRise u aX aY bX bY ac mn sp i1 x) (f_R_roofWidth u aX aY bX bY ac mn sp i1) = true := b2i_ne0.mp c5
            refine lv_iconst (v := 1) hx hb d_R_cellAt_63 (by decide) ?_
            refine lv_goto (tgt := 68) hx hb d_R_cellAt_64 (by decide) ?_
            refine lv_istore (lv' := [(6, .int 1), (0, .ref q0), (1, .int (nI (sp))), (2, .int x), (3, .int up), (4, .int fo), (5, .int (nI (i1)))]) hx hb d_R_cellAt_68 hl (by decide) rfl (fun ls hl => ?_)
            refine lv_iload hx hb d_R_cellAt_70 (lv_at hl 0 rfl) ?_
            refine lv_if_eq (tgt := 85) hx hb d_R_cellAt_72 (by decide) (fun h => absurd h (by decide)) (fun _ => ?_)
            refine lv_bipush (v := 21) hx hb d_R_cellAt_75 (by decide) ?_
            refine lv_iload_n hx hb d_R_cellAt_77 rfl (lv_at hl 2 rfl) ?_
            refine lv_imul hx hb d_R_cellAt_78 ?_
            refine rtop (y := nI (21 * sp)) (pk_mul (21) (sp)) ?_
            refine lv_iload hx hb d_R_cellAt_79 (lv_at hl 6 rfl) ?_
            refine lv_iadd hx hb d_R_cellAt_81 ?_
            refine rtop (y := nI ((21 * sp) + i1)) (nI_add (21 * sp) (i1)) ?_
            refine lv_goto (tgt := 87) hx hb d_R_cellAt_82 (by decide) ?_
            refine lv_istore (lv' := [(4, .int (nI ((21 * sp) + i1))), (6, .int 1), (0, .ref q0), (1, .int (nI (sp))), (2, .int x), (3, .int up), (5, .int (nI (i1)))]) hx hb d_R_cellAt_87 hl (by decide) rfl (fun ls hl => ?_)
            refine lv_iinc (v := nI (i1 + 1)) (lv' := [(5, .int (nI (i1 + 1))), (4, .int (nI ((21 * sp) + i1))), (6, .int 1), (0, .ref q0), (1, .int (nI (sp))), (2, .int x), (3, .int up)]) hx hb d_R_cellAt_89 hl (k := 6) rfl (nI_1 (i1)) (by decide) rfl (fun ls hl => ?_)
            refine lv_goto (tgt := 6) hx hb d_R_cellAt_92 (by decide) ?_
            exact ih1 (i1 + 1) (nI ((21 * sp) + i1)) (by omega) ls (lv_sub hl [3, 4, 5, 6, 1, 0] rfl) (hf.trans (show fb_R_cellAt_1 u aX aY bX bY ac mn sp x up (fl_R_cellAt_1 u aX aY bX bY ac mn sp x up n1) i1 fo = (fl_R_cellAt_1 u aX aY bX bY ac mn sp x up n1 (i1 + 1) (nI ((21 * sp) + i1))) from by unfold fb_R_cellAt_1; rw [if_pos c3a, if_pos c5a]))
  exact key1 (mn sp + 1) 0 (-1) (by omega) ls (lv_sub hl [2, 3, 4, 5, 1, 0] rfl) (show f_R_cellAt u aX aY bX bY ac mn sp x up = (fl_R_cellAt_1 u aX aY bX bY ac mn sp x up (mn sp + 1) 0 (-1)) from rfl)
theorem fill2_ac (u : Nat → Bool) (aX aY bX bY : Nat → Int32) (k1 : Nat) (fm to : Int32) : ∀ (n at2 : Nat) (ac2 : Nat → Nat), (∀ i, ac2 i < 20) → ∀ i, (fl_R_fill_2 u aX aY bX bY k1 fm to n at2 ac2).2 i < 20 := by
  intro n
  induction n with
  | zero => intro at2 ac2 h; exact h
  | succ n ih =>
    intro at2 ac2 h
    show ∀ i, (fb_R_fill_2 u aX aY bX bY k1 fm to (fl_R_fill_2 u aX aY bX bY k1 fm to n) at2 ac2).2 i < 20
    unfold fb_R_fill_2
    split
    · exact ih _ _ (updN_lt h (h _))
    · exact h
theorem fill1_ac (u : Nat → Bool) (aX aY bX bY : Nat → Int32) (sp : Nat) : ∀ (n k1 : Nat) (fm to : Int32) (ac1 mn1 : Nat → Nat), k1 + n = 20 → (∀ i, ac1 i < 20) → ∀ i, (fl_R_fill_1 u aX aY bX bY sp n k1 fm to ac1 mn1).1 i < 20 := by
  intro n
  induction n with
  | zero => intro k1 fm to ac1 mn1 _ h; exact h
  | succ n ih =>
    intro k1 fm to ac1 mn1 hk h
    show ∀ i, (fb_R_fill_1 u aX aY bX bY sp (fl_R_fill_1 u aX aY bX bY sp n) k1 fm to ac1 mn1).1 i < 20
    unfold fb_R_fill_1
    repeat' split
    all_goals first
      | exact ih _ _ _ _ _ (by omega) h
      | exact ih _ _ _ _ _ (by omega) (updN_lt (fill2_ac u aX aY bX bY k1 fm to _ _ _ h) (by omega))
theorem fill_ac (u : Nat → Bool) (aX aY bX bY : Nat → Int32) (lns : Nat) (ln : Nat → Int32) (ac mn : Nat → Nat) (sp : Nat) (h : ∀ i, ac i < 20) : ∀ i, (f_R_fill u aX aY bX bY lns ln ac mn sp).1 i < 20 := by
  unfold f_R_fill
  repeat' split
  all_goals first
    | exact h
    | exact fill1_ac u aX aY bX bY sp _ _ _ _ _ _ (by omega) h
theorem fill1_mn (u : Nat → Bool) (aX aY bX bY : Nat → Int32) (sp : Nat) : ∀ (n k1 : Nat) (fm to : Int32) (ac1 mn1 : Nat → Nat), k1 + n = 20 → mn1 sp ≤ k1 → (fl_R_fill_1 u aX aY bX bY sp n k1 fm to ac1 mn1).2 sp ≤ 20 ∧ ∀ i, i ≠ sp → (fl_R_fill_1 u aX aY bX bY sp n k1 fm to ac1 mn1).2 i = mn1 i := by
  intro n
  induction n with
  | zero =>
    intro k1 fm to ac1 mn1 hk h
    refine ⟨?_, fun i _ => rfl⟩
    show mn1 sp ≤ 20
    omega
  | succ n ih =>
    intro k1 fm to ac1 mn1 hk h
    show (fb_R_fill_1 u aX aY bX bY sp (fl_R_fill_1 u aX aY bX bY sp n) k1 fm to ac1 mn1).2 sp ≤ 20 ∧ ∀ i, i ≠ sp → (fb_R_fill_1 u aX aY bX bY sp (fl_R_fill_1 u aX aY bX bY sp n) k1 fm to ac1 mn1).2 i = mn1 i
    unfold fb_R_fill_1
    repeat' split
    all_goals first
      | exact ih _ _ _ _ _ (by omega) (by omega)
      | (obtain ⟨e1, e2⟩ := ih (k1 + 1) fm to (updN (fl_R_fill_2 u aX aY bX bY k1 fm to (mn1 sp) (20 * sp + mn1 sp) ac1).2 (fl_R_fill_2 u aX aY bX bY k1 fm to (mn1 sp) (20 * sp + mn1 sp) ac1).1 k1) (updN mn1 sp (mn1 sp + 1)) (by omega) (by rw [updN_self]; omega)
         exact ⟨e1, fun i hi => (e2 i hi).trans (updN_ne _ _ hi)⟩)
theorem fill_mn_ne (u : Nat → Bool) (aX aY bX bY : Nat → Int32) (lns : Nat) (ln : Nat → Int32) (ac mn : Nat → Nat) (sp : Nat) : (f_R_fill u aX aY bX bY lns ln ac mn sp).2 sp ≤ 20 ∧ ∀ i, i ≠ sp → (f_R_fill u aX aY bX bY lns ln ac mn sp).2 i = mn i := by
  unfold f_R_fill
  repeat' split
  all_goals first
    | (refine ⟨?_, fun i hi => updN_ne _ _ hi⟩
       show updN mn sp 0 sp ≤ 20
       rw [updN_self]; omega)
    | (obtain ⟨e1, e2⟩ := fill1_mn u aX aY bX bY sp 20 0 (ln (sp - 1)) (ln sp) ac (updN mn sp 0) (by omega) (by rw [updN_self]; omega)
       exact ⟨e1, fun i hi => (e2 i hi).trans (updN_ne _ _ hi)⟩)
theorem fill_mn (u : Nat → Bool) (aX aY bX bY : Nat → Int32) (lns : Nat) (ln : Nat → Int32) (ac mn : Nat → Nat) (sp : Nat) (h : ∀ i, mn i ≤ 20) : ∀ i, (f_R_fill u aX aY bX bY lns ln ac mn sp).2 i ≤ 20 := by
  intro i
  obtain ⟨e1, e2⟩ := fill_mn_ne u aX aY bX bY lns ln ac mn sp
  by_cases hi : i = sp
  · rw [hi]; exact e1
  · rw [e2 i hi]; exact h i
theorem addLine_le (lns : Nat) (ln : Nat → Int32) (x : Int32) : (f_R_addLine lns ln x).1 ≤ lns + 1 := by
  unfold f_R_addLine
  repeat' split
  all_goals (show _ ≤ lns + 1; omega)
theorem cellAt_fl (u : Nat → Bool) (aX aY bX bY : Nat → Int32) (ac mn : Nat → Nat) (sp : Nat) (x up : Int32) : ∀ (n i1 : Nat) (fo : Int32), i1 + n = mn sp + 1 → (fo = -1 ∨ ∃ i, i ≤ mn sp ∧ fo = nI (21 * sp + i)) → fl_R_cellAt_1 u aX aY bX bY ac mn sp x up n i1 fo = -1 ∨ ∃ i, i ≤ mn sp ∧ fl_R_cellAt_1 u aX aY bX bY ac mn sp x up n i1 fo = nI (21 * sp + i) := by
  intro n
  induction n with
  | zero => intro i1 fo _ h; exact h
  | succ n ih =>
    intro i1 fo hi h
    show fb_R_cellAt_1 u aX aY bX bY ac mn sp x up (fl_R_cellAt_1 u aX aY bX bY ac mn sp x up n) i1 fo = -1 ∨ ∃ i, i ≤ mn sp ∧ fb_R_cellAt_1 u aX aY bX bY ac mn sp x up (fl_R_cellAt_1 u aX aY bX bY ac mn sp x up n) i1 fo = nI (21 * sp + i)
    unfold fb_R_cellAt_1
    repeat' split
    all_goals first
      | exact ih _ _ (by omega) h
      | exact ih _ _ (by omega) (Or.inr ⟨i1, by omega, rfl⟩)
/-- a cell that is found is one of the strip's -/
theorem cellAt_ok (u : Nat → Bool) (aX aY bX bY : Nat → Int32) (ac mn : Nat → Nat) (sp : Nat) (x up : Int32) : f_R_cellAt u aX aY bX bY ac mn sp x up = -1 ∨ ∃ i, i ≤ mn sp ∧ f_R_cellAt u aX aY bX bY ac mn sp x up = nI (21 * sp + i) := by
  unfold f_R_cellAt
  exact cellAt_fl u aX aY bX bY ac mn sp x up _ 0 (-1) (by omega) (Or.inl rfl)
