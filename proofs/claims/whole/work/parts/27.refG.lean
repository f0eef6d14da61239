theorem cell_nat {c : Int32} {sp : Nat} {mn : Nat → Nat} (h : c = -1 ∨ ∃ i, i ≤ mn sp ∧ c = nI (21 * sp + i)) (hne : ¬ c = -1) (hs : sp ≤ 40) (hm : mn sp ≤ 20) : ∃ i, i ≤ mn sp ∧ c.toNatClampNeg = 21 * sp + i ∧ c = nI c.toNatClampNeg ∧ c.toNatClampNeg < 861 := by
  rcases h with h | ⟨i, hi, rfl⟩
  · exact absurd h hne
  · rw [nI_clamp (by omega)]
    exact ⟨i, hi, rfl, rfl, by omega⟩
def fx_R_faces_2 (s1 : Nat) (sm1 : Nat → Nat) (i2 : Nat) (ct2 : Nat) : (Nat) := ct2
def fb_R_faces_2 (s1 : Nat) (sm1 : Nat → Nat) (rec : (Nat) → (Nat) → (Nat)) (i2 : Nat) (ct2 : Nat) : (Nat) := if (sm1 ((21 * s1) + i2)) = ((21 * s1) + i2) then (rec (i2 + 1) (ct2 + 1)) else (rec (i2 + 1) ct2)
def fl_R_faces_2 (s1 : Nat) (sm1 : Nat → Nat) : Nat → (Nat) → (Nat) → (Nat)
  | 0, i2, ct2 => fx_R_faces_2 s1 sm1 i2 ct2
  | n2 + 1, i2, ct2 => fb_R_faces_2 s1 sm1 (fl_R_faces_2 s1 sm1 n2) i2 ct2
def fx_R_faces_1 (u : Nat → Bool) (aX : Nat → Int32) (aY : Nat → Int32) (bX : Nat → Int32) (bY : Nat → Int32) (kn : Bool) (lns : Nat) (ln : Nat → Int32) (ac : Nat → Nat) (mn : Nat → Nat) (sm : Nat → Nat) (s1 : Nat) (ct1 : Nat) (ls1 : Nat) (mn1 : Nat → Nat) (sm1 : Nat → Nat) : (Nat) × (Bool) × (Nat) × (Nat → Int32) × (Nat → Nat) × (Nat → Nat) × (Nat → Nat) := (ct1, ((f_R_look u aX aY bX bY kn lns ln ac mn sm).1), ls1, (f_R_look u aX aY bX bY kn lns ln ac mn sm).2.2.1, (f_R_look u aX aY bX bY kn lns ln ac mn sm).2.2.2.1, mn1, sm1)
def fb_R_faces_1 (u : Nat → Bool) (aX : Nat → Int32) (aY : Nat → Int32) (bX : Nat → Int32) (bY : Nat → Int32) (kn : Bool) (lns : Nat) (ln : Nat → Int32) (ac : Nat → Nat) (mn : Nat → Nat) (sm : Nat → Nat) (rec : (Nat) → (Nat) → (Nat) → (Nat → Nat) → (Nat → Nat) → (Nat) × (Bool) × (Nat) × (Nat → Int32) × (Nat → Nat) × (Nat → Nat) × (Nat → Nat)) (s1 : Nat) (ct1 : Nat) (ls1 : Nat) (mn1 : Nat → Nat) (sm1 : Nat → Nat) : (Nat) × (Bool) × (Nat) × (Nat → Int32) × (Nat → Nat) × (Nat → Nat) × (Nat → Nat) := rec (s1 + 1) (fl_R_faces_2 s1 sm1 (mn1 s1 + 1) 0 ct1) ls1 mn1 sm1
def fl_R_faces_1 (u : Nat → Bool) (aX : Nat → Int32) (aY : Nat → Int32) (bX : Nat → Int32) (bY : Nat → Int32) (kn : Bool) (lns : Nat) (ln : Nat → Int32) (ac : Nat → Nat) (mn : Nat → Nat) (sm : Nat → Nat) : Nat → (Nat) → (Nat) → (Nat) → (Nat → Nat) → (Nat → Nat) → (Nat) × (Bool) × (Nat) × (Nat → Int32) × (Nat → Nat) × (Nat → Nat) × (Nat → Nat)
  | 0, s1, ct1, ls1, mn1, sm1 => fx_R_faces_1 u aX aY bX bY kn lns ln ac mn sm s1 ct1 ls1 mn1 sm1
  | n1 + 1, s1, ct1, ls1, mn1, sm1 => fb_R_faces_1 u aX aY bX bY kn lns ln ac mn sm (fl_R_faces_1 u aX aY bX bY kn lns ln ac mn sm n1) s1 ct1 ls1 mn1 sm1
def f_R_faces (u : Nat → Bool) (aX : Nat → Int32) (aY : Nat → Int32) (bX : Nat → Int32) (bY : Nat → Int32) (kn : Bool) (lns : Nat) (ln : Nat → Int32) (ac : Nat → Nat) (mn : Nat → Nat) (sm : Nat → Nat) : (Nat) × (Bool) × (Nat) × (Nat → Int32) × (Nat → Nat) × (Nat → Nat) × (Nat → Nat) := fl_R_faces_1 u aX aY bX bY kn lns ln ac mn sm (((f_R_look u aX aY bX bY kn lns ln ac mn sm).2.1) + 1) 0 0 ((f_R_look u aX aY bX bY kn lns ln ac mn sm).2.1) ((f_R_look u aX aY bX bY kn lns ln ac mn sm).2.2.2.2.1) ((f_R_look u aX aY bX bY kn lns ln ac mn sm).2.2.2.2.2)
theorem i_R_faces : inV y_R_faces b_R_faces 4 (some .int) 0 := ⟨kM_y_R_faces, kV_y_R_faces, kI_R, kY_y_R_faces, by decide +kernel⟩
set_option maxHeartbeats 4000000 in
set_option maxRecDepth 100000 in
theorem c_R_faces (l : Launch) (D : va_G) (q0 qu qa qb qc qd qe qf qg qh : Nat) (cZ cI : ClassId) (u : Nat → Bool) (aX aY bX bY : Nat → Int32) (kn : Bool) (lns : Nat) (ln : Nat → Int32) (ac mn sm : Nat → Nat) (sz : Nat) (hR : RPre kn lns ac mn sm) : SMi l y_R_faces b_R_faces 4 (some .int) 4 103 D [(q0, .inr (3, [.ref qu, .ref qa, .ref qb, .ref qc, .ref qd, .int (b2i (kn)), .int (nI (lns)), .ref qe, .ref qf, .ref qg, .ref qh])), (qu, .inl (cZ, 20, .inl (fun z9 => b2i (u z9)))), (qa, .inl (cI, 20, .inl aX)), (qb, .inl (cI, 20, .inl aY)), (qc, .inl (cI, 20, .inl bX)), (qd, .inl (cI, 20, .inl bY)), (qe, .inl (cI, 40, .inl ln)), (qf, .inl (cI, 820, .inl (fun z9 => nI (ac z9)))), (qg, .inl (cI, 41, .inl (fun z9 => nI (mn z9)))), (qh, .inl (cI, 861, .inl (fun z9 => nI (sm z9))))] [(cZ, .boolean), (cI, .int)] [.ref q0] sz (nI ((f_R_faces u aX aY bX bY kn lns ln ac mn sm).1)) [(q0, .inr (3, [.ref qu, .ref qa, .ref qb, .ref qc, .ref qd, .int (b2i ((f_R_faces u aX aY bX bY kn lns ln ac mn sm).2.1)), .int (nI ((f_R_faces u aX aY bX bY kn lns ln ac mn sm).2.2.1)), .ref qe, .ref qf, .ref qg, .ref qh])), (qu, .inl (cZ, 20, .inl (fun z9 => b2i (u z9)))), (qa, .inl (cI, 20, .inl aX)), (qb, .inl (cI, 20, .inl aY)), (qc, .inl (cI, 20, .inl bX)), (qd, .inl (cI, 20, .inl bY)), (qe, .inl (cI, 40, .inl ((f_R_faces u aX aY bX bY kn lns ln ac mn sm).2.2.2.1))), (qf, .inl (cI, 820, .inl (fun z9 => nI (((f_R_faces u aX aY bX bY kn lns ln ac mn sm).2.2.2.2.1) z9)))), (qg, .inl (cI, 41, .inl (fun z9 => nI (((f_R_faces u aX aY bX bY kn lns ln ac mn sm).2.2.2.2.2.1) z9)))), (qh, .inl (cI, 861, .inl (fun z9 => nI (((f_R_faces u aX aY bX bY kn lns ln ac mn sm).2.2.2.2.2.2) z9))))] := by
  refine sMet (Qc := fun A => sQi (nI ((f_R_faces u aX aY bX bY kn lns ln ac mn sm).1)) D [(q0, .inr (3, [.ref qu, .ref qa, .ref qb, .ref qc, .ref qd, .int (b2i ((f_R_faces u aX aY bX bY kn lns ln ac mn sm).2.1)), .int (nI ((f_R_faces u aX aY bX bY kn lns ln ac mn sm).2.2.1)), .ref qe, .ref qf, .ref qg, .ref qh])), (qu, .inl (cZ, 20, .inl (fun z9 => b2i (u z9)))), (qa, .inl (cI, 20, .inl aX)), (qb, .inl (cI, 20, .inl aY)), (qc, .inl (cI, 20, .inl bX)), (qd, .inl (cI, 20, .inl bY)), (qe, .inl (cI, 40, .inl ((f_R_faces u aX aY bX bY kn lns ln ac mn sm).2.2.2.1))), (qf, .inl (cI, 820, .inl (fun z9 => nI (((f_R_faces u aX aY bX bY kn lns ln ac mn sm).2.2.2.2.1) z9)))), (qg, .inl (cI, 41, .inl (fun z9 => nI (((f_R_faces u aX aY bX bY kn lns ln ac mn sm).2.2.2.2.2.1) z9)))), (qh, .inl (cI, 861, .inl (fun z9 => nI (((f_R_faces u aX aY bX bY kn lns ln ac mn sm).2.2.2.2.2.2) z9))))] [(cZ, .boolean), (cI, .int)] A) rfl (fun p e s m below meth c A S hr hlk hP hK hD hA hS ls hl => ?_) (Nat.le_of_ble_eq_true rfl)
  have hx := S.1
  have hb := S.2.1
  have hl : lv_has ls 4 [(0, .ref q0)] := hl
  have hAc := hR.1
  have hMn := hR.2.1
  have hSm := hR.2.2.1
  have hQ := look_inv u aX aY bX bY kn lns ln ac mn sm hR
  have hQ1 := hQ.1
  have hQ2 := hQ.2.1
  have hQ3 := hQ.2.2.1
  have hQ4 := hQ.2.2.2.1
  have hQ5 := hQ.2.2.2.2
  refine lv_aload_n hx hb d_R_faces_0 rfl (lv_at hl 0 rfl) ?_
  refine rcallVv (rest := []) (wc := [(q0, .inr (3, [.ref qu, .ref qa, .ref qb, .ref qc, .ref qd, .int (b2i (kn)), .int (nI (lns)), .ref qe, .ref qf, .ref qg, .ref qh])), (qu, .inl (cZ, 20, .inl (fun z9 => b2i (u z9)))), (qa, .inl (cI, 20, .inl aX)), (qb, .inl (cI, 20, .inl aY)), (qc, .inl (cI, 20, .inl bX)), (qd, .inl (cI, 20, .inl bY)), (qe, .inl (cI, 40, .inl ln)), (qf, .inl (cI, 820, .inl (fun z9 => nI (ac z9)))), (qg, .inl (cI, 41, .inl (fun z9 => nI (mn z9)))), (qh, .inl (cI, 861, .inl (fun z9 => nI (sm z9))))]) (wr := []) (w1 := [(q0, .inr (3, [.ref qu, .ref qa, .ref qb, .ref qc, .ref qd, .int (b2i ((f_R_look u aX aY bX bY kn lns ln ac mn sm).1)), .int (nI ((f_R_look u aX aY bX bY kn lns ln ac mn sm).2.1)), .ref qe, .ref qf, .ref qg, .ref qh])), (qu, .inl (cZ, 20, .inl (fun z9 => b2i (u z9)))), (qa, .inl (cI, 20, .inl aX)), (qb, .inl (cI, 20, .inl aY)), (qc, .inl (cI, 20, .inl bX)), (qd, .inl (cI, 20, .inl bY)), (qe, .inl (cI, 40, .inl ((f_R_look u aX aY bX bY kn lns ln ac mn sm).2.2.1))), (qf, .inl (cI, 820, .inl (fun z9 => nI (((f_R_look u aX aY bX bY kn lns ln ac mn sm).2.2.2.1) z9)))), (qg, .inl (cI, 41, .inl (fun z9 => nI (((f_R_look u aX aY bX bY kn lns ln ac mn sm).2.2.2.2.1) z9)))), (qh, .inl (cI, 861, .inl (fun z9 => nI (((f_R_look u aX aY bX bY kn lns ln ac mn sm).2.2.2.2.2) z9))))]) S [] hK hP hD hS hA [0, 1, 2, 3, 4, 5, 6, 7, 8, 9] [] rfl rfl (by decide) rfl (by decide) (by decide) [0, 1] rfl (c_R_look l D q0 qu qa qb qc qd qe qf qg qh cZ cI u aX aY bX bY kn lns ln ac mn sm _ (by assumption) (by assumption) (by assumption)) i_R_look kL_R_125 ⟨Nat.le_of_ble_eq_true rfl, Nat.le_of_ble_eq_true rfl⟩ ⟨Nat.zero_le _, Nat.zero_le _⟩ (q0 := 0) (ci := 3) rfl rfl rfl hl.1 rfl (Nat.le_of_ble_eq_true rfl) d_R_faces_1 (fun H locs hP hD hS => ?_)
  have hP : va_P D CLS [(q0, .inr (3, [.ref qu, .ref qa, .ref qb, .ref qc, .ref qd, .int (b2i ((f_R_look u aX aY bX bY kn lns ln ac mn sm).1)), .int (nI ((f_R_look u aX aY bX bY kn lns ln ac mn sm).2.1)), .ref qe, .ref qf, .ref qg, .ref qh])), (qu, .inl (cZ, 20, .inl (fun z9 => b2i (u z9)))), (qa, .inl (cI, 20, .inl aX)), (qb, .inl (cI, 20, .inl aY)), (qc, .inl (cI, 20, .inl bX)), (qd, .inl (cI, 20, .inl bY)), (qe, .inl (cI, 40, .inl ((f_R_look u aX aY bX bY kn lns ln ac mn sm).2.2.1))), (qf, .inl (cI, 820, .inl (fun z9 => nI (((f_R_look u aX aY bX bY kn lns ln ac mn sm).2.2.2.1) z9)))), (qg, .inl (cI, 41, .inl (fun z9 => nI (((f_R_look u aX aY bX bY kn lns ln ac mn sm).2.2.2.2.1) z9)))), (qh, .inl (cI, 861, .inl (fun z9 => nI (((f_R_look u aX aY bX bY kn lns ln ac mn sm).2.2.2.2.2) z9))))] H := hP
  have hD : va_D A [(q0, .inr (3, [.ref qu, .ref qa, .ref qb, .ref qc, .ref qd, .int (b2i ((f_R_look u aX aY bX bY kn lns ln ac mn sm).1)), .int (nI ((f_R_look u aX aY bX bY kn lns ln ac mn sm).2.1)), .ref qe, .ref qf, .ref qg, .ref qh])), (qu, .inl (cZ, 20, .inl (fun z9 => b2i (u z9)))), (qa, .inl (cI, 20, .inl aX)), (qb, .inl (cI, 20, .inl aY)), (qc, .inl (cI, 20, .inl bX)), (qd, .inl (cI, 20, .inl bY)), (qe, .inl (cI, 40, .inl ((f_R_look u aX aY bX bY kn lns ln ac mn sm).2.2.1))), (qf, .inl (cI, 820, .inl (fun z9 => nI (((f_R_look u aX aY bX bY kn lns ln ac mn sm).2.2.2.1) z9)))), (qg, .inl (cI, 41, .inl (fun z9 => nI (((f_R_look u aX aY bX bY kn lns ln ac mn sm).2.2.2.2.1) z9)))), (qh, .inl (cI, 861, .inl (fun z9 => nI (((f_R_look u aX aY bX bY kn lns ln ac mn sm).2.2.2.2.2) z9))))] := hD
  refine lv_iconst (v := 0) hx hb d_R_faces_4 (by decide) ?_
  refine lv_istore_n (lv' := [(1, .int 0), (0, .ref q0)]) hx hb d_R_faces_5 rfl hl (by decide) rfl (fun ls hl => ?_)
  refine lv_iconst (v := 0) hx hb d_R_faces_6 (by decide) ?_
  refine lv_istore_n (lv' := [(2, .int 0), (1, .int 0), (0, .ref q0)]) hx hb d_R_faces_7 rfl hl (by decide) rfl (fun ls hl => ?_)
  have key1 : ∀ (n1 : Nat) (s1 : Nat) (ct1 : Nat) (ls1 : Nat) (mn1 : Nat → Nat) (sm1 : Nat → Nat) (hk1 : s1 + n1 = ls1 + 1) (hl1 : ls1 ≤ 40) (hM1 : ∀ i, mn1 i ≤ 20) (hS1 : ∀ i, sm1 i < 861) (H : Heap) (locs : List Loc) (hP : va_P D CLS [(q0, .inr (3, [.ref qu, .ref qa, .ref qb, .ref qc, .ref qd, .int (b2i ((f_R_look u aX aY bX bY kn lns ln ac mn sm).1)), .int (nI (ls1)), .ref qe, .ref qf, .ref qg, .ref qh])), (qu, .inl (cZ, 20, .inl (fun z9 => b2i (u z9)))), (qa, .inl (cI, 20, .inl aX)), (qb, .inl (cI, 20, .inl aY)), (qc, .inl (cI, 20, .inl bX)), (qd, .inl (cI, 20, .inl bY)), (qe, .inl (cI, 40, .inl ((f_R_look u aX aY bX bY kn lns ln ac mn sm).2.2.1))), (qf, .inl (cI, 820, .inl (fun z9 => nI (((f_R_look u aX aY bX bY kn lns ln ac mn sm).2.2.2.1) z9)))), (qg, .inl (cI, 41, .inl (fun z9 => nI (mn1 z9)))), (qh, .inl (cI, 861, .inl (fun z9 => nI (sm1 z9))))] H) (hD : va_D A [(q0, .inr (3, [.ref qu, .ref qa, .ref qb, .ref qc, .ref qd, .int (b2i ((f_R_look u aX aY bX bY kn lns ln ac mn sm).1)), .int (nI (ls1)), .ref qe, .ref qf, .ref qg, .ref qh])), (qu, .inl (cZ, 20, .inl (fun z9 => b2i (u z9)))), (qa, .inl (cI, 20, .inl aX)), (qb, .inl (cI, 20, .inl aY)), (qc, .inl (cI, 20, .inl bX)), (qd, .inl (cI, 20, .inl bY)), (qe, .inl (cI, 40, .inl ((f_R_look u aX aY bX bY kn lns ln ac mn sm).2.2.1))), (qf, .inl (cI, 820, .inl (fun z9 => nI (((f_R_look u aX aY bX bY kn lns ln ac mn sm).2.2.2.1) z9)))), (qg, .inl (cI, 41, .inl (fun z9 => nI (mn1 z9)))), (qh, .inl (cI, 861, .inl (fun z9 => nI (sm1 z9))))]) (hS : va_S A s.heap H locs) (ls : Array Slot) (hl : lv_has ls 4 [(0, .ref q0), (1, .int (nI (ct1))), (2, .int (nI (s1)))]) (hf : f_R_faces u aX aY bX bY kn lns ln ac mn sm = fl_R_faces_1 u aX aY bX bY kn lns ln ac mn sm n1 s1 ct1 ls1 mn1 sm1), W p l e { frames := 4, cells := 0, slots := 0, locals := 103 } s m [.ref q0].toArray below meth c H locs 0 0 (MQ below (sQi (nI ((f_R_faces u aX aY bX bY kn lns ln ac mn sm).1)) D [(q0, .inr (3, [.ref qu, .ref qa, .ref qb, .ref qc, .ref qd, .int (b2i ((f_R_faces u aX aY bX bY kn lns ln ac mn sm).2.1)), .int (nI ((f_R_faces u aX aY bX bY kn lns ln ac mn sm).2.2.1)), .ref qe, .ref qf, .ref qg, .ref qh])), (qu, .inl (cZ, 20, .inl (fun z9 => b2i (u z9)))), (qa, .inl (cI, 20, .inl aX)), (qb, .inl (cI, 20, .inl aY)), (qc, .inl (cI, 20, .inl bX)), (qd, .inl (cI, 20, .inl bY)), (qe, .inl (cI, 40, .inl ((f_R_faces u aX aY bX bY kn lns ln ac mn sm).2.2.2.1))), (qf, .inl (cI, 820, .inl (fun z9 => nI (((f_R_faces u aX aY bX bY kn lns ln ac mn sm).2.2.2.2.1) z9)))), (qg, .inl (cI, 41, .inl (fun z9 => nI (((f_R_faces u aX aY bX bY kn lns ln ac mn sm).2.2.2.2.2.1) z9)))), (qh, .inl (cI, 861, .inl (fun z9 => nI (((f_R_faces u aX aY bX bY kn lns ln ac mn sm).2.2.2.2.2.2) z9))))] [(cZ, .boolean), (cI, .int)] A) [.ref q0].toArray s 0 0 A) (F0 m 8 ls []) := by
    clear hP hD hS hl
    intro n1
    induction n1 with
    | zero =>
      intro s1 ct1 ls1 mn1 sm1 hk1 hl1 hM1 hS1 H locs hP hD hS ls hl hf
      refine lv_iload_n hx hb d_R_faces_8 rfl (lv_at hl 2 rfl) ?_
      refine lv_aload_n hx hb d_R_faces_9 rfl (lv_at hl 0 rfl) ?_
      refine rget S hK hP 0 rfl rfl in_R 6 (by decide) kF_R_86 rfl d_R_faces_10 ?_
      refine lv_icmp_gt (tgt := 68) hx hb d_R_faces_13 (by decide) (fun c1 => ?_) (fun c1 => ?_)
      · have c1a : ls1 < s1 := (nI_ltI (a := ls1) (b := s1) (by omega) (by omega)).mp c1
        refine lv_iload_n hx hb d_R_faces_68 rfl (lv_at hl 1 rfl) ?_
        have eqf := (hf.trans (show fx_R_faces_1 u aX aY bX bY kn lns ln ac mn sm s1 ct1 ls1 mn1 sm1 = (ct1, ((f_R_look u aX aY bX bY kn lns ln ac mn sm).1), ls1, (f_R_look u aX aY bX bY kn lns ln ac mn sm).2.2.1, (f_R_look u aX aY bX bY kn lns ln ac mn sm).2.2.2.1, mn1, sm1) from rfl))
        exact rretI S hr hlk (v := nI (ct1)) (by rw [eqf]) (by rw [eqf]) hP hK hD hS d_R_faces_69
      · have c1a : ¬ (ls1 < s1) := fun h => c1 ((nI_ltI (a := ls1) (b := s1) (by omega) (by omega)).mpr h)
        omega
    | succ n1 ih1 =>
      intro s1 ct1 ls1 mn1 sm1 hk1 hl1 hM1 hS1 H locs hP hD hS ls hl hf
      refine lv_iload_n hx hb d_R_faces_8 rfl (lv_at hl 2 rfl) ?_
      refine lv_aload_n hx hb d_R_faces_9 rfl (lv_at hl 0 rfl) ?_
      refine rget S hK hP 0 rfl rfl in_R 6 (by decide) kF_R_86 rfl d_R_faces_10 ?_
      refine lv_icmp_gt (tgt := 68) hx hb d_R_faces_13 (by decide) (fun c2 => ?_) (fun c2 => ?_)
      · have c2a : ls1 < s1 := (nI_ltI (a := ls1) (b := s1) (by omega) (by omega)).mp c2
        omega
      · have c2a : ¬ (ls1 < s1) := fun h => c2 ((nI_ltI (a := ls1) (b := s1) (by omega) (by omega)).mpr h)
        refine lv_iconst (v := 0) hx hb d_R_faces_16 (by decide) ?_
        refine lv_istore_n (lv' := [(3, .int 0), (0, .ref q0), (1, .int (nI (ct1))), (2, .int (nI (s1)))]) hx hb d_R_faces_17 rfl hl (by decide) rfl (fun ls hl => ?_)
        have key2 : ∀ (n2 : Nat) (i2 : Nat) (ct2 : Nat) (hk2 : i2 + n2 = mn1 s1 + 1) (H : Heap) (locs : List Loc) (hP : va_P D CLS [(q0, .inr (3, [.ref qu, .ref qa, .ref qb, .ref qc, .ref qd, .int (b2i ((f_R_look u aX aY bX bY kn lns ln ac mn sm).1)), .int (nI (ls1)), .ref qe, .ref qf, .ref qg, .ref qh])), (qu, .inl (cZ, 20, .inl (fun z9 => b2i (u z9)))), (qa, .inl (cI, 20, .inl aX)), (qb, .inl (cI, 20, .inl aY)), (qc, .inl (cI, 20, .inl bX)), (qd, .inl (cI, 20, .inl bY)), (qe, .inl (cI, 40, .inl ((f_R_look u aX aY bX bY kn lns ln ac mn sm).2.2.1))), (qf, .inl (cI, 820, .inl (fun z9 => nI (((f_R_look u aX aY bX bY kn lns ln ac mn sm).2.2.2.1) z9)))), (qg, .inl (cI, 41, .inl (fun z9 => nI (mn1 z9)))), (qh, .inl (cI, 861, .inl (fun z9 => nI (sm1 z9))))] H) (hD : va_D A [(q0, .inr (3, [.ref qu, .ref qa, .ref qb, .ref qc, .ref qd, .int (b2i ((f_R_look u aX aY bX bY kn lns ln ac mn sm).1)), .int (nI (ls1)), .ref qe, .ref qf, .ref qg, .ref qh])), (qu, .inl (cZ, 20, .inl (fun z9 => b2i (u z9)))), (qa, .inl (cI, 20, .inl aX)), (qb, .inl (cI, 20, .inl aY)), (qc, .inl (cI, 20, .inl bX)), (qd, .inl (cI, 20, .inl bY)), (qe, .inl (cI, 40, .inl ((f_R_look u aX aY bX bY kn lns ln ac mn sm).2.2.1))), (qf, .inl (cI, 820, .inl (fun z9 => nI (((f_R_look u aX aY bX bY kn lns ln ac mn sm).2.2.2.1) z9)))), (qg, .inl (cI, 41, .inl (fun z9 => nI (mn1 z9)))), (qh, .inl (cI, 861, .inl (fun z9 => nI (sm1 z9))))]) (hS : va_S A s.heap H locs) (ls : Array Slot) (hl : lv_has ls 4 [(0, .ref q0), (1, .int (nI (ct2))), (2, .int (nI (s1))), (3, .int (nI (i2)))]) (cont : ∀ (res : (Nat)), res = fl_R_faces_2 s1 sm1 n2 i2 ct2 → ∀ (H : Heap) (locs : List Loc), va_P D CLS [(q0, .inr (3, [.ref qu, .ref qa, .ref qb, .ref qc, .ref qd, .int (b2i ((f_R_look u aX aY bX bY kn lns ln ac mn sm).1)), .int (nI (ls1)), .ref qe, .ref qf, .ref qg, .ref qh])), (qu, .inl (cZ, 20, .inl (fun z9 => b2i (u z9)))), (qa, .inl (cI, 20, .inl aX)), (qb, .inl (cI, 20, .inl aY)), (qc, .inl (cI, 20, .inl bX)), (qd, .inl (cI, 20, .inl bY)), (qe, .inl (cI, 40, .inl ((f_R_look u aX aY bX bY kn lns ln ac mn sm).2.2.1))), (qf, .inl (cI, 820, .inl (fun z9 => nI (((f_R_look u aX aY bX bY kn lns ln ac mn sm).2.2.2.1) z9)))), (qg, .inl (cI, 41, .inl (fun z9 => nI (mn1 z9)))), (qh, .inl (cI, 861, .inl (fun z9 => nI (sm1 z9))))] H → va_D A [(q0, .inr (3, [.ref qu, .ref qa, .ref qb, .ref qc, .ref qd, .int (b2i ((f_R_look u aX aY bX bY kn lns ln ac mn sm).1)), .int (nI (ls1)), .ref qe, .ref qf, .ref qg, .ref qh])), (qu, .inl (cZ, 20, .inl (fun z9 => b2i (u z9)))), (qa, .inl (cI, 20, .inl aX)), (qb, .inl (cI, 20, .inl aY)), (qc, .inl (cI, 20, .inl bX)), (qd, .inl (cI, 20, .inl bY)), (qe, .inl (cI, 40, .inl ((f_R_look u aX aY bX bY kn lns ln ac mn sm).2.2.1))), (qf, .inl (cI, 820, .inl (fun z9 => nI (((f_R_look u aX aY bX bY kn lns ln ac mn sm).2.2.2.1) z9)))), (qg, .inl (cI, 41, .inl (fun z9 => nI (mn1 z9)))), (qh, .inl (cI, 861, .inl (fun z9 => nI (sm1 z9))))] → va_S A s.heap H locs → ∀ ls : Array Slot, lv_has ls 4 [(0, .ref q0), (1, .int (nI (res))), (2, .int (nI (s1)))] → W p l e { frames := 4, cells := 0, slots := 0, locals := 103 } s m [.ref q0].toArray below meth c H locs 0 0 (MQ below (sQi (nI ((f_R_faces u aX aY bX bY kn lns ln ac mn sm).1)) D [(q0, .inr (3, [.ref qu, .ref qa, .ref qb, .ref qc, .ref qd, .int (b2i ((f_R_faces u aX aY bX bY kn lns ln ac mn sm).2.1)), .int (nI ((f_R_faces u aX aY bX bY kn lns ln ac mn sm).2.2.1)), .ref qe, .ref qf, .ref qg, .ref qh])), (qu, .inl (cZ, 20, .inl (fun z9 => b2i (u z9)))), (qa, .inl (cI, 20, .inl aX)), (qb, .inl (cI, 20, .inl aY)), (qc, .inl (cI, 20, .inl bX)), (qd, .inl (cI, 20, .inl bY)), (qe, .inl (cI, 40, .inl ((f_R_faces u aX aY bX bY kn lns ln ac mn sm).2.2.2.1))), (qf, .inl (cI, 820, .inl (fun z9 => nI (((f_R_faces u aX aY bX bY kn lns ln ac mn sm).2.2.2.2.1) z9)))), (qg, .inl (cI, 41, .inl (fun z9 => nI (((f_R_faces u aX aY bX bY kn lns ln ac mn sm).2.2.2.2.2.1) z9)))), (qh, .inl (cI, 861, .inl (fun z9 => nI (((f_R_faces u aX aY bX bY kn lns ln ac mn sm).2.2.2.2.2.2) z9))))] [(cZ, .boolean), (cI, .int)] A) [.ref q0].toArray s 0 0 A) (F0 m 62 ls [])), W p l e { frames := 4, cells := 0, slots := 0, locals := 103 } s m [.ref q0].toArray below meth c H locs 0 0 (MQ below (sQi (nI ((f_R_faces u aX aY bX bY kn lns ln ac mn sm).1)) D [(q0, .inr (3, [.ref qu, .ref qa, .ref qb, .ref qc, .ref qd, .int (b2i ((f_R_faces u aX aY bX bY kn lns ln ac mn sm).2.1)), .int (nI ((f_R_faces u aX aY bX bY kn lns ln ac mn sm).2.2.1)), .ref qe, .ref qf, .ref qg, .ref qh])), (qu, .inl (cZ, 20, .inl (fun z9 => b2i (u z9)))), (qa, .inl (cI, 20, .inl aX)), (qb, .inl (cI, 20, .inl aY)), (qc, .inl (cI, 20, .inl bX)), (qd, .inl (cI, 20, .inl bY)), (qe, .inl (cI, 40, .inl ((f_R_faces u aX aY bX bY kn lns ln ac mn sm).2.2.2.1))), (qf, .inl (cI, 820, .inl (fun z9 => nI (((f_R_faces u aX aY bX bY kn lns ln ac mn sm).2.2.2.2.1) z9)))), (qg, .inl (cI, 41, .inl (fun z9 => nI (((f_R_faces u aX aY bX bY kn lns ln ac mn sm).2.2.2.2.2.1) z9)))), (qh, .inl (cI, 861, .inl (fun z9 => nI (((f_R_faces u aX aY bX bY kn lns ln ac mn sm).2.2.2.2.2.2) z9))))] [(cZ, .boolean), (cI, .int)] A) [.ref q0].toArray s 0 0 A) (F0 m 18 ls []) := by
          clear hP hD hS hl
          intro n2
          induction n2 with
          | zero =>
            intro i2 ct2 hk2 H locs hP hD hS ls hl cont
            have hm1 := hM1 s1
            refine lv_iload_n hx hb d_R_faces_18 rfl (lv_at hl 3 rfl) ?_
            refine lv_aload_n hx hb d_R_faces_19 rfl (lv_at hl 0 rfl) ?_
            refine rget S hK hP 0 rfl rfl in_R 9 (by decide) kF_R_32 rfl d_R_faces_20 ?_
            refine lv_iload_n hx hb d_R_faces_23 rfl (lv_at hl 2 rfl) ?_
            refine rnald (j := s1) S hK hP 8 1 rfl rfl (by omega) (by first | decide | omega) d_R_faces_24 ?_
            refine lv_icmp_gt (tgt := 62) hx hb d_R_faces_25 (by decide) (fun c3 => ?_) (fun c3 => ?_)
            · have c3a : (mn1 s1) < i2 := (nI_ltI (a := mn1 s1) (b := i2) (Nat.lt_of_le_of_lt (hM1 _) (by decide)) (by omega)).mp c3
              exact cont ct2 (show fx_R_faces_2 s1 sm1 i2 ct2 = ct2 from rfl).symm _ _ hP hD hS ls (lv_sub hl [0, 1, 2] rfl)
            · have c3a : ¬ ((mn1 s1) < i2) := fun h => c3 ((nI_ltI (a := mn1 s1) (b := i2) (Nat.lt_of_le_of_lt (hM1 _) (by decide)) (by omega)).mpr h)
              omega
          | succ n2 ih2 =>
            intro i2 ct2 hk2 H locs hP hD hS ls hl cont
            have hm1 := hM1 s1
            refine lv_iload_n hx hb d_R_faces_18 rfl (lv_at hl 3 rfl) ?_
            refine lv_aload_n hx hb d_R_faces_19 rfl (lv_at hl 0 rfl) ?_
            refine rget S hK hP 0 rfl rfl in_R 9 (by decide) kF_R_32 rfl d_R_faces_20 ?_
            refine lv_iload_n hx hb d_R_faces_23 rfl (lv_at hl 2 rfl) ?_
            refine rnald (j := s1) S hK hP 8 1 rfl rfl (by omega) (by first | decide | omega) d_R_faces_24 ?_
            refine lv_icmp_gt (tgt := 62) hx hb d_R_faces_25 (by decide) (fun c4 => ?_) (fun c4 => ?_)
            · have c4a : (mn1 s1) < i2 := (nI_ltI (a := mn1 s1) (b := i2) (Nat.lt_of_le_of_lt (hM1 _) (by decide)) (by omega)).mp c4
              omega
            · have c4a : ¬ ((mn1 s1) < i2) := fun h => c4 ((nI_ltI (a := mn1 s1) (b := i2) (Nat.lt_of_le_of_lt (hM1 _) (by decide)) (by omega)).mpr h)
              refine lv_aload_n hx hb d_R_faces_28 rfl (lv_at hl 0 rfl) ?_
              refine rget S hK hP 0 rfl rfl in_R 10 (by decide) kF_R_35 rfl d_R_faces_29 ?_
              refine lv_bipush (v := 21) hx hb d_R_faces_32 (by decide) ?_
              refine lv_iload_n hx hb d_R_faces_34 rfl (lv_at hl 2 rfl) ?_
              refine lv_imul hx hb d_R_faces_35 ?_
              refine rtop (y := nI (21 * s1)) (pk_mul (21) (s1)) ?_
              refine lv_iload_n hx hb d_R_faces_36 rfl (lv_at hl 3 rfl) ?_
              refine lv_iadd hx hb d_R_faces_37 ?_
              refine rtop (y := nI ((21 * s1) + i2)) (nI_add (21 * s1) (i2)) ?_
              refine rnald (j := (21 * s1) + i2) S hK hP 9 1 rfl rfl (by omega) (by first | decide | omega) d_R_faces_38 ?_
              refine lv_bipush (v := 21) hx hb d_R_faces_39 (by decide) ?_
              refine lv_iload_n hx hb d_R_faces_41 rfl (lv_at hl 2 rfl) ?_
              refine lv_imul hx hb d_R_faces_42 ?_
              refine rtop (y := nI (21 * s1)) (pk_mul (21) (s1)) ?_
              refine lv_iload_n hx hb d_R_faces_43 rfl (lv_at hl 3 rfl) ?_
              refine lv_iadd hx hb d_R_faces_44 ?_
              refine rtop (y := nI ((21 * s1) + i2)) (nI_add (21 * s1) (i2)) ?_
              refine lv_icmp_ne (tgt := 54) hx hb d_R_faces_45 (by decide) (fun c5 => ?_) (fun c5 => ?_)
              · have c5a : ¬ ((sm1 ((21 * s1) + i2)) = ((21 * s1) + i2)) := fun h => c5 ((nI_eq (a := sm1 ((21 * s1) + i2)) (b := (21 * s1) + i2) (Nat.lt_trans (hS1 _) (by decide)) (by omega)).mpr h)
                refine lv_iload_n hx hb d_R_faces_54 rfl (lv_at hl 1 rfl) ?_
                refine lv_istore_n (lv' := [(1, .int (nI (ct2))), (0, .ref q0), (2, .int (nI (s1))), (3, .int (nI (i2)))]) hx hb d_R_faces_55 rfl hl (by decide) rfl (fun ls hl => ?_)
                refine lv_iinc (v := nI (i2 + 1)) (lv' := [(3, .int (nI (i2 + 1))), (1, .int (nI (ct2))), (0, .ref q0), (2, .int (nI (s1)))]) hx hb d_R_faces_56 hl (k := 3) rfl (nI_1 (i2)) (by decide) rfl (fun ls hl => ?_)
                refine lv_goto (tgt := 18) hx hb d_R_faces_59 (by decide) ?_
                exact ih2 (i2 + 1) ct2 (by omega) _ _ (hP.sub [0, 1, 2, 3, 4, 5, 6, 7, 8, 9] rfl) (hD.sub [0, 1, 2, 3, 4, 5, 6, 7, 8, 9] (by decide) rfl) hS ls (lv_sub hl [2, 1, 3, 0] rfl) (fun res hres => cont res (hres.trans (show fb_R_faces_2 s1 sm1 (fl_R_faces_2 s1 sm1 n2) i2 ct2 = (fl_R_faces_2 s1 sm1 n2 (i2 + 1) ct2) from by unfold fb_R_faces_2; rw [if_neg c5a]).symm))
              · have c5a : (sm1 ((21 * s1) + i2)) = ((21 * s1) + i2) := (nI_eq (a := sm1 ((21 * s1) + i2)) (b := (21 * s1) + i2) (Nat.lt_trans (hS1 _) (by decide)) (by omega)).mp c5
                refine lv_iload_n hx hb d_R_faces_48 rfl (lv_at hl 1 rfl) ?_
                refine lv_iconst (v := 1) hx hb d_R_faces_49 (by decide) ?_
                refine lv_iadd hx hb d_R_faces_50 ?_
                refine rtop (y := nI (ct2 + 1)) (nI_add (ct2) (1)) ?_
                refine lv_goto (tgt := 55) hx hb d_R_faces_51 (by decide) ?_
                refine lv_istore_n (lv' := [(1, .int (nI (ct2 + 1))), (0, .ref q0), (2, .int (nI (s1))), (3, .int (nI (i2)))]) hx hb d_R_faces_55 rfl hl (by decide) rfl (fun ls hl => ?_)
                refine lv_iinc (v := nI (i2 + 1)) (lv' := [(3, .int (nI (i2 + 1))), (1, .int (nI (ct2 + 1))), (0, .ref q0), (2, .int (nI (s1)))]) hx hb d_R_faces_56 hl (k := 3) rfl (nI_1 (i2)) (by decide) rfl (fun ls hl => ?_)
                refine lv_goto (tgt := 18) hx hb d_R_faces_59 (by decide) ?_
                exact ih2 (i2 + 1) (ct2 + 1) (by omega) _ _ (hP.sub [0, 1, 2, 3, 4, 5, 6, 7, 8, 9] rfl) (hD.sub [0, 1, 2, 3, 4, 5, 6, 7, 8, 9] (by decide) rfl) hS ls (lv_sub hl [2, 1, 3, 0] rfl) (fun res hres => cont res (hres.trans (show fb_R_faces_2 s1 sm1 (fl_R_faces_2 s1 sm1 n2) i2 ct2 = (fl_R_faces_2 s1 sm1 n2 (i2 + 1) (ct2 + 1)) from by unfold fb_R_faces_2; rw [if_pos c5a]).symm))
        refine key2 (mn1 s1 + 1) 0 ct1 (by omega) _ _ hP hD hS ls (lv_sub hl [1, 2, 3, 0] rfl) (fun res hres H locs hP hD hS ls hl => ?_)
        subst hres
        have hP : va_P D CLS [(q0, .inr (3, [.ref qu, .ref qa, .ref qb, .ref qc, .ref qd, .int (b2i ((f_R_look u aX aY bX bY kn lns ln ac mn sm).1)), .int (nI (ls1)), .ref qe, .ref qf, .ref qg, .ref qh])), (qu, .inl (cZ, 20, .inl (fun z9 => b2i (u z9)))), (qa, .inl (cI, 20, .inl aX)), (qb, .inl (cI, 20, .inl aY)), (qc, .inl (cI, 20, .inl bX)), (qd, .inl (cI, 20, .inl bY)), (qe, .inl (cI, 40, .inl ((f_R_look u aX aY bX bY kn lns ln ac mn sm).2.2.1))), (qf, .inl (cI, 820, .inl (fun z9 => nI (((f_R_look u aX aY bX bY kn lns ln ac mn sm).2.2.2.1) z9)))), (qg, .inl (cI, 41, .inl (fun z9 => nI (mn1 z9)))), (qh, .inl (cI, 861, .inl (fun z9 => nI (sm1 z9))))] H := hP
        have hD : va_D A [(q0, .inr (3, [.ref qu, .ref qa, .ref qb, .ref qc, .ref qd, .int (b2i ((f_R_look u aX aY bX bY kn lns ln ac mn sm).1)), .int (nI (ls1)), .ref qe, .ref qf, .ref qg, .ref qh])), (qu, .inl (cZ, 20, .inl (fun z9 => b2i (u z9)))), (qa, .inl (cI, 20, .inl aX)), (qb, .inl (cI, 20, .inl aY)), (qc, .inl (cI, 20, .inl bX)), (qd, .inl (cI, 20, .inl bY)), (qe, .inl (cI, 40, .inl ((f_R_look u aX aY bX bY kn lns ln ac mn sm).2.2.1))), (qf, .inl (cI, 820, .inl (fun z9 => nI (((f_R_look u aX aY bX bY kn lns ln ac mn sm).2.2.2.1) z9)))), (qg, .inl (cI, 41, .inl (fun z9 => nI (mn1 z9)))), (qh, .inl (cI, 861, .inl (fun z9 => nI (sm1 z9))))] := hD
        have hl : lv_has ls 4 [(0, .ref q0), (1, .int (nI (fl_R_faces_2 s1 sm1 (mn1 s1 + 1) 0 ct1))), (2, .int (nI (s1)))] := hl
        refine lv_iinc (v := nI (s1 + 1)) (lv' := [(2, .int (nI (s1 + 1))), (0, .ref q0), (1, .int (nI (fl_R_faces_2 s1 sm1 (mn1 s1 + 1) 0 ct1)))]) hx hb d_R_faces_62 hl (k := 2) rfl (nI_1 (s1)) (by decide) rfl (fun ls hl => ?_)
        refine lv_goto (tgt := 8) hx hb d_R_faces_65 (by decide) ?_
        exact ih1 (s1 + 1) (fl_R_faces_2 s1 sm1 (mn1 s1 + 1) 0 ct1) ls1 mn1 sm1 (by omega) hl1 hM1 hS1 _ _ (hP.sub [0, 1, 2, 3, 4, 5, 6, 7, 8, 9] rfl) (hD.sub [0, 1, 2, 3, 4, 5, 6, 7, 8, 9] (by decide) rfl) hS ls (lv_sub hl [1, 2, 0] rfl) (hf.trans (show fb_R_faces_1 u aX aY bX bY kn lns ln ac mn sm (fl_R_faces_1 u aX aY bX bY kn lns ln ac mn sm n1) s1 ct1 ls1 mn1 sm1 = (fl_R_faces_1 u aX aY bX bY kn lns ln ac mn sm n1 (s1 + 1) (fl_R_faces_2 s1 sm1 (mn1 s1 + 1) 0 ct1) ls1 mn1 sm1) from rfl))
  exact key1 (((f_R_look u aX aY bX bY kn lns ln ac mn sm).2.1) + 1) 0 0 ((f_R_look u aX aY bX bY kn lns ln ac mn sm).2.1) ((f_R_look u aX aY bX bY kn lns ln ac mn sm).2.2.2.2.1) ((f_R_look u aX aY bX bY kn lns ln ac mn sm).2.2.2.2.2) (by omega) hQ1 hQ3 hQ4 _ _ hP hD hS ls (lv_sub hl [2, 1, 0] rfl) (show f_R_faces u aX aY bX bY kn lns ln ac mn sm = (fl_R_faces_1 u aX aY bX bY kn lns ln ac mn sm (((f_R_look u aX aY bX bY kn lns ln ac mn sm).2.1) + 1) 0 0 ((f_R_look u aX aY bX bY kn lns ln ac mn sm).2.1) ((f_R_look u aX aY bX bY kn lns ln ac mn sm).2.2.2.2.1) ((f_R_look u aX aY bX bY kn lns ln ac mn sm).2.2.2.2.2)) from rfl)
def fx_R_faceAt_1 (x : Int32) (t1 : Nat) (ls1 : Nat) (l1 : Nat → Int32) : (Nat) := t1
def fb_R_faceAt_1 (x : Int32) (rec : (Nat) → (Nat) → (Nat → Int32) → (Nat)) (t1 : Nat) (ls1 : Nat) (l1 : Nat → Int32) : (Nat) := if x < l1 t1 then t1 else (rec (t1 + 1) ls1 l1)
def fl_R_faceAt_1 (x : Int32) : Nat → (Nat) → (Nat) → (Nat → Int32) → (Nat)
  | 0, t1, ls1, l1 => fx_R_faceAt_1 x t1 ls1 l1
  | n1 + 1, t1, ls1, l1 => fb_R_faceAt_1 x (fl_R_faceAt_1 x n1) t1 ls1 l1
def f_R_faceAt (u : Nat → Bool) (aX : Nat → Int32) (aY : Nat → Int32) (bX : Nat → Int32) (bY : Nat → Int32) (kn : Bool) (lns : Nat) (ln : Nat → Int32) (ac : Nat → Nat) (mn : Nat → Nat) (sm : Nat → Nat) (x : Int32) (y : Int32) : (Nat) × (Bool) × (Nat) × (Nat → Int32) × (Nat → Nat) × (Nat → Nat) × (Nat → Nat) := (f_R_face ((f_R_look u aX aY bX bY kn lns ln ac mn sm).2.2.2.2.2) ((f_R_cellAt u aX aY bX bY ((f_R_look u aX aY bX bY kn lns ln ac mn sm).2.2.2.1) ((f_R_look u aX aY bX bY kn lns ln ac mn sm).2.2.2.2.1) (fl_R_faceAt_1 x ((f_R_look u aX aY bX bY kn lns ln ac mn sm).2.1) 0 ((f_R_look u aX aY bX bY kn lns ln ac mn sm).2.1) ((f_R_look u aX aY bX bY kn lns ln ac mn sm).2.2.1)) x (2 * y)).toNatClampNeg), ((f_R_look u aX aY bX bY kn lns ln ac mn sm).1), ((f_R_look u aX aY bX bY kn lns ln ac mn sm).2.1), (f_R_look u aX aY bX bY kn lns ln ac mn sm).2.2.1, (f_R_look u aX aY bX bY kn lns ln ac mn sm).2.2.2.1, (f_R_look u aX aY bX bY kn lns ln ac mn sm).2.2.2.2.1, (f_R_look u aX aY bX bY kn lns ln ac mn sm).2.2.2.2.2)
def faceAtCell (u : Nat → Bool) (aX aY bX bY : Nat → Int32) (kn : Bool) (lns : Nat) (ln : Nat → Int32) (ac mn sm : Nat → Nat) (x y : Int32) : Int32 := (f_R_cellAt u aX aY bX bY ((f_R_look u aX aY bX bY kn lns ln ac mn sm).2.2.2.1) ((f_R_look u aX aY bX bY kn lns ln ac mn sm).2.2.2.2.1) (fl_R_faceAt_1 x ((f_R_look u aX aY bX bY kn lns ln ac mn sm).2.1) 0 ((f_R_look u aX aY bX bY kn lns ln ac mn sm).2.1) ((f_R_look u aX aY bX bY kn lns ln ac mn sm).2.2.1)) x (2 * y))
theorem i_R_faceAt : inV y_R_faceAt b_R_faceAt 4 (some .int) 2 := ⟨kM_y_R_faceAt, kV_y_R_faceAt, kI_R, kY_y_R_faceAt, by decide +kernel⟩
set_option maxHeartbeats 4000000 in
set_option maxRecDepth 100000 in
theorem c_R_faceAt (l : Launch) (D : va_G) (q0 qu qa qb qc qd qe qf qg qh : Nat) (cZ cI : ClassId) (u : Nat → Bool) (aX aY bX bY : Nat → Int32) (kn : Bool) (lns : Nat) (ln : Nat → Int32) (ac mn sm : Nat → Nat) (x : Int32) (y : Int32) (sz : Nat) (hR : RPre kn lns ac mn sm) (hF : ¬ faceAtCell u aX aY bX bY kn lns ln ac mn sm x y = -1) : SMi l y_R_faceAt b_R_faceAt 4 (some .int) 4 103 D [(q0, .inr (3, [.ref qu, .ref qa, .ref qb, .ref qc, .ref qd, .int (b2i (kn)), .int (nI (lns)), .ref qe, .ref qf, .ref qg, .ref qh])), (qu, .inl (cZ, 20, .inl (fun z9 => b2i (u z9)))), (qa, .inl (cI, 20, .inl aX)), (qb, .inl (cI, 20, .inl aY)), (qc, .inl (cI, 20, .inl bX)), (qd, .inl (cI, 20, .inl bY)), (qe, .inl (cI, 40, .inl ln)), (qf, .inl (cI, 820, .inl (fun z9 => nI (ac z9)))), (qg, .inl (cI, 41, .inl (fun z9 => nI (mn z9)))), (qh, .inl (cI, 861, .inl (fun z9 => nI (sm z9))))] [(cZ, .boolean), (cI, .int)] [.ref q0, .int x, .int y] sz (nI ((f_R_faceAt u aX aY bX bY kn lns ln ac mn sm x y).1)) [(q0, .inr (3, [.ref qu, .ref qa, .ref qb, .ref qc, .ref qd, .int (b2i ((f_R_faceAt u aX aY bX bY kn lns ln ac mn sm x y).2.1)), .int (nI ((f_R_faceAt u aX aY bX bY kn lns ln ac mn sm x y).2.2.1)), .ref qe, .ref qf, .ref qg, .ref qh])), (qu, .inl (cZ, 20, .inl (fun z9 => b2i (u z9)))), (qa, .inl (cI, 20, .inl aX)), (qb, .inl (cI, 20, .inl aY)), (qc, .inl (cI, 20, .inl bX)), (qd, .inl (cI, 20, .inl bY)), (qe, .inl (cI, 40, .inl ((f_R_faceAt u aX aY bX bY kn lns ln ac mn sm x y).2.2.2.1))), (qf, .inl (cI, 820, .inl (fun z9 => nI (((f_R_faceAt u aX aY bX bY kn lns ln ac mn sm x y).2.2.2.2.1) z9)))), (qg, .inl (cI, 41, .inl (fun z9 => nI (((f_R_faceAt u aX aY bX bY kn lns ln ac mn sm x y).2.2.2.2.2.1) z9)))), (qh, .inl (cI, 861, .inl (fun z9 => nI (((f_R_faceAt u aX aY bX bY kn lns ln ac mn sm x y).2.2.2.2.2.2) z9))))] := by
  refine sMet (Qc := fun A => sQi (nI ((f_R_faceAt u aX aY bX bY kn lns ln ac mn sm x y).1)) D [(q0, .inr (3, [.ref qu, .ref qa, .ref qb, .ref qc, .ref qd, .int (b2i ((f_R_faceAt u aX aY bX bY kn lns ln ac mn sm x y).2.1)), .int (nI ((f_R_faceAt u aX aY bX bY kn lns ln ac mn sm x y).2.2.1)), .ref qe, .ref qf, .ref qg, .ref qh])), (qu, .inl (cZ, 20, .inl (fun z9 => b2i (u z9)))), (qa, .inl (cI, 20, .inl aX)), (qb, .inl (cI, 20, .inl aY)), (qc, .inl (cI, 20, .inl bX)), (qd, .inl (cI, 20, .inl bY)), (qe, .inl (cI, 40, .inl ((f_R_faceAt u aX aY bX bY kn lns ln ac mn sm x y).2.2.2.1))), (qf, .inl (cI, 820, .inl (fun z9 => nI (((f_R_faceAt u aX aY bX bY kn lns ln ac mn sm x y).2.2.2.2.1) z9)))), (qg, .inl (cI, 41, .inl (fun z9 => nI (((f_R_faceAt u aX aY bX bY kn lns ln ac mn sm x y).2.2.2.2.2.1) z9)))), (qh, .inl (cI, 861, .inl (fun z9 => nI (((f_R_faceAt u aX aY bX bY kn lns ln ac mn sm x y).2.2.2.2.2.2) z9))))] [(cZ, .boolean), (cI, .int)] A) rfl (fun p e s m below meth c A S hr hlk hP hK hD hA hS ls hl => ?_) (Nat.le_of_ble_eq_true rfl)
  have hx := S.1
  have hb := S.2.1
  have hl : lv_has ls 4 [(0, .ref q0), (1, .int x), (2, .int y)] := hl
  have hAc := hR.1
  have hMn := hR.2.1
  have hSm := hR.2.2.1
  have hQ := look_inv u aX aY bX bY kn lns ln ac mn sm hR
  have hQ1 := hQ.1
  have hQ2 := hQ.2.1
  have hQ3 := hQ.2.2.1
  have hQ4 := hQ.2.2.2.1
  have hQ5 := hQ.2.2.2.2
  refine lv_aload_n hx hb d_R_faceAt_0 rfl (lv_at hl 0 rfl) ?_
  refine rcallVv (rest := []) (wc := [(q0, .inr (3, [.ref qu, .ref qa, .ref qb, .ref qc, .ref qd, .int (b2i (kn)), .int (nI (lns)), .ref qe, .ref qf, .ref qg, .ref qh])), (qu, .inl (cZ, 20, .inl (fun z9 => b2i (u z9)))), (qa, .inl (cI, 20, .inl aX)), (qb, .inl (cI, 20, .inl aY)), (qc, .inl (cI, 20, .inl bX)), (qd, .inl (cI, 20, .inl bY)), (qe, .inl (cI, 40, .inl ln)), (qf, .inl (cI, 820, .inl (fun z9 => nI (ac z9)))), (qg, .inl (cI, 41, .inl (fun z9 => nI (mn z9)))), (qh, .inl (cI, 861, .inl (fun z9 => nI (sm z9))))]) (wr := []) (w1 := [(q0, .inr (3, [.ref qu, .ref qa, .ref qb, .ref qc, .ref qd, .int (b2i ((f_R_look u aX aY bX bY kn lns ln ac mn sm).1)), .int (nI ((f_R_look u aX aY bX bY kn lns ln ac mn sm).2.1)), .ref qe, .ref qf, .ref qg, .ref qh])), (qu, .inl (cZ, 20, .inl (fun z9 => b2i (u z9)))), (qa, .inl (cI, 20, .inl aX)), (qb, .inl (cI, 20, .inl aY)), (qc, .inl (cI, 20, .inl bX)), (qd, .inl (cI, 20, .inl bY)), (qe, .inl (cI, 40, .inl ((f_R_look u aX aY bX bY kn lns ln ac mn sm).2.2.1))), (qf, .inl (cI, 820, .inl (fun z9 => nI (((f_R_look u aX aY bX bY kn lns ln ac mn sm).2.2.2.1) z9)))), (qg, .inl (cI, 41, .inl (fun z9 => nI (((f_R_look u aX aY bX bY kn lns ln ac mn sm).2.2.2.2.1) z9)))), (qh, .inl (cI, 861, .inl (fun z9 => nI (((f_R_look u aX aY bX bY kn lns ln ac mn sm).2.2.2.2.2) z9))))]) S [] hK hP hD hS hA [0, 1, 2, 3, 4, 5, 6, 7, 8, 9] [] rfl rfl (by decide) rfl (by decide) (by decide) [0, 1] rfl (c_R_look l D q0 qu qa qb qc qd qe qf qg qh cZ cI u aX aY bX bY kn lns ln ac mn sm _ (by assumption) (by assumption) (by assumption)) i_R_look kL_R_125 ⟨Nat.le_of_ble_eq_true rfl, Nat.le_of_ble_eq_true rfl⟩ ⟨Nat.zero_le _, Nat.zero_le _⟩ (q0 := 0) (ci := 3) rfl rfl rfl hl.1 rfl (Nat.le_of_ble_eq_true rfl) d_R_faceAt_1 (fun H locs hP hD hS => ?_)
  have hP : va_P D CLS [(q0, .inr (3, [.ref qu, .ref qa, .ref qb, .ref qc, .ref qd, .int (b2i ((f_R_look u aX aY bX bY kn lns ln ac mn sm).1)), .int (nI ((f_R_look u aX aY bX bY kn lns ln ac mn sm).2.1)), .ref qe, .ref qf, .ref qg, .ref qh])), (qu, .inl (cZ, 20, .inl (fun z9 => b2i (u z9)))), (qa, .inl (cI, 20, .inl aX)), (qb, .inl (cI, 20, .inl aY)), (qc, .inl (cI, 20, .inl bX)), (qd, .inl (cI, 20, .inl bY)), (qe, .inl (cI, 40, .inl ((f_R_look u aX aY bX bY kn lns ln ac mn sm).2.2.1))), (qf, .inl (cI, 820, .inl (fun z9 => nI (((f_R_look u aX aY bX bY kn lns ln ac mn sm).2.2.2.1) z9)))), (qg, .inl (cI, 41, .inl (fun z9 => nI (((f_R_look u aX aY bX bY kn lns ln ac mn sm).2.2.2.2.1) z9)))), (qh, .inl (cI, 861, .inl (fun z9 => nI (((f_R_look u aX aY bX bY kn lns ln ac mn sm).2.2.2.2.2) z9))))] H := hP
  have hD : va_D A [(q0, .inr (3, [.ref qu, .ref qa, .ref qb, .ref qc, .ref qd, .int (b2i ((f_R_look u aX aY bX bY kn lns ln ac mn sm).1)), .int (nI ((f_R_look u aX aY bX bY kn lns ln ac mn sm).2.1)), .ref qe, .ref qf, .ref qg, .ref qh])), (qu, .inl (cZ, 20, .inl (fun z9 => b2i (u z9)))), (qa, .inl (cI, 20, .inl aX)), (qb, .inl (cI, 20, .inl aY)), (qc, .inl (cI, 20, .inl bX)), (qd, .inl (cI, 20, .inl bY)), (qe, .inl (cI, 40, .inl ((f_R_look u aX aY bX bY kn lns ln ac mn sm).2.2.1))), (qf, .inl (cI, 820, .inl (fun z9 => nI (((f_R_look u aX aY bX bY kn lns ln ac mn sm).2.2.2.1) z9)))), (qg, .inl (cI, 41, .inl (fun z9 => nI (((f_R_look u aX aY bX bY kn lns ln ac mn sm).2.2.2.2.1) z9)))), (qh, .inl (cI, 861, .inl (fun z9 => nI (((f_R_look u aX aY bX bY kn lns ln ac mn sm).2.2.2.2.2) z9))))] := hD
  refine lv_iconst (v := 0) hx hb d_R_faceAt_4 (by decide) ?_
  refine lv_istore_n (lv' := [(3, .int 0), (0, .ref q0), (1, .int x), (2, .int y)]) hx hb d_R_faceAt_5 rfl hl (by decide) rfl (fun ls hl => ?_)
  have key1 : ∀ (n1 : Nat) (t1 : Nat) (ls1 : Nat) (l1 : Nat → Int32) (hk1 : t1 + n1 = ls1) (hl1 : ls1 ≤ 40) (H : Heap) (locs : List Loc) (hP : va_P D CLS [(q0, .inr (3, [.ref qu, .ref qa, .ref qb, .ref qc, .ref qd, .int (b2i ((f_R_look u aX aY bX bY kn lns ln ac mn sm).1)), .int (nI (ls1)), .ref qe, .ref qf, .ref qg, .ref qh])), (qu, .inl (cZ, 20, .inl (fun z9 => b2i (u z9)))), (qa, .inl (cI, 20, .inl aX)), (qb, .inl (cI, 20, .inl aY)), (qc, .inl (cI, 20, .inl bX)), (qd, .inl (cI, 20, .inl bY)), (qe, .inl (cI, 40, .inl l1)), (qf, .inl (cI, 820, .inl (fun z9 => nI (((f_R_look u aX aY bX bY kn lns ln ac mn sm).2.2.2.1) z9)))), (qg, .inl (cI, 41, .inl (fun z9 => nI (((f_R_look u aX aY bX bY kn lns ln ac mn sm).2.2.2.2.1) z9)))), (qh, .inl (cI, 861, .inl (fun z9 => nI (((f_R_look u aX aY bX bY kn lns ln ac mn sm).2.2.2.2.2) z9))))] H) (hD : va_D A [(q0, .inr (3, [.ref qu, .ref qa, .ref qb, .ref qc, .ref qd, .int (b2i ((f_R_look u aX aY bX bY kn lns ln ac mn sm).1)), .int (nI (ls1)), .ref qe, .ref qf, .ref qg, .ref qh])), (qu, .inl (cZ, 20, .inl (fun z9 => b2i (u z9)))), (qa, .inl (cI, 20, .inl aX)), (qb, .inl (cI, 20, .inl aY)), (qc, .inl (cI, 20, .inl bX)), (qd, .inl (cI, 20, .inl bY)), (qe, .inl (cI, 40, .inl l1)), (qf, .inl (cI, 820, .inl (fun z9 => nI (((f_R_look u aX aY bX bY kn lns ln ac mn sm).2.2.2.1) z9)))), (qg, .inl (cI, 41, .inl (fun z9 => nI (((f_R_look u aX aY bX bY kn lns ln ac mn sm).2.2.2.2.1) z9)))), (qh, .inl (cI, 861, .inl (fun z9 => nI (((f_R_look u aX aY bX bY kn lns ln ac mn sm).2.2.2.2.2) z9))))]) (hS : va_S A s.heap H locs) (ls : Array Slot) (hl : lv_has ls 4 [(0, .ref q0), (1, .int x), (2, .int y), (3, .int (nI (t1)))]) (cont : ∀ (res : (Nat)), res = fl_R_faceAt_1 x n1 t1 ls1 l1 → (res ≤ ls1) → ∀ (H : Heap) (locs : List Loc), va_P D CLS [(q0, .inr (3, [.ref qu, .ref qa, .ref qb, .ref qc, .ref qd, .int (b2i ((f_R_look u aX aY bX bY kn lns ln ac mn sm).1)), .int (nI (ls1)), .ref qe, .ref qf, .ref qg, .ref qh])), (qu, .inl (cZ, 20, .inl (fun z9 => b2i (u z9)))), (qa, .inl (cI, 20, .inl aX)), (qb, .inl (cI, 20, .inl aY)), (qc, .inl (cI, 20, .inl bX)), (qd, .inl (cI, 20, .inl bY)), (qe, .inl (cI, 40, .inl l1)), (qf, .inl (cI, 820, .inl (fun z9 => nI (((f_R_look u aX aY bX bY kn lns ln ac mn sm).2.2.2.1) z9)))), (qg, .inl (cI, 41, .inl (fun z9 => nI (((f_R_look u aX aY bX bY kn lns ln ac mn sm).2.2.2.2.1) z9)))), (qh, .inl (cI, 861, .inl (fun z9 => nI (((f_R_look u aX aY bX bY kn lns ln ac mn sm).2.2.2.2.2) z9))))] H → va_D A [(q0, .inr (3, [.ref qu, .ref qa, .ref qb, .ref qc, .ref qd, .int (b2i ((f_R_look u aX aY bX bY kn lns ln ac mn sm).1)), .int (nI (ls1)), .ref qe, .ref qf, .ref qg, .ref qh])), (qu, .inl (cZ, 20, .inl (fun z9 => b2i (u z9)))), (qa, .inl (cI, 20, .inl aX)), (qb, .inl (cI, 20, .inl aY)), (qc, .inl (cI, 20, .inl bX)), (qd, .inl (cI, 20, .inl bY)), (qe, .inl (cI, 40, .inl l1)), (qf, .inl (cI, 820, .inl (fun z9 => nI (((f_R_look u aX aY bX bY kn lns ln ac mn sm).2.2.2.1) z9)))), (qg, .inl (cI, 41, .inl (fun z9 => nI (((f_R_look u aX aY bX bY kn lns ln ac mn sm).2.2.2.2.1) z9)))), (qh, .inl (cI, 861, .inl (fun z9 => nI (((f_R_look u aX aY bX bY kn lns ln ac mn sm).2.2.2.2.2) z9))))] → va_S A s.heap H locs → ∀ ls : Array Slot, lv_has ls 4 [(0, .ref q0), (1, .int x), (2, .int y), (3, .int (nI (res)))] → W p l e { frames := 4, cells := 0, slots := 0, locals := 103 } s m [.ref q0, .int x, .int y].toArray below meth c H locs 0 0 (MQ below (sQi (nI ((f_R_faceAt u aX aY bX bY kn lns ln ac mn sm x y).1)) D [(q0, .inr (3, [.ref qu, .ref qa, .ref qb, .ref qc, .ref qd, .int (b2i ((f_R_faceAt u aX aY bX bY kn lns ln ac mn sm x y).2.1)), .int (nI ((f_R_faceAt u aX aY bX bY kn lns ln ac mn sm x y).2.2.1)), .ref qe, .ref qf, .ref qg, .ref qh])), (qu, .inl (cZ, 20, .inl (fun z9 => b2i (u z9)))), (qa, .inl (cI, 20, .inl aX)), (qb, .inl (cI, 20, .inl aY)), (qc, .inl (cI, 20, .inl bX)), (qd, .inl (cI, 20, .inl bY)), (qe, .inl (cI, 40, .inl ((f_R_faceAt u aX aY bX bY kn lns ln ac mn sm x y).2.2.2.1))), (qf, .inl (cI, 820, .inl (fun z9 => nI (((f_R_faceAt u aX aY bX bY kn lns ln ac mn sm x y).2.2.2.2.1) z9)))), (qg, .inl (cI, 41, .inl (fun z9 => nI (((f_R_faceAt u aX aY bX bY kn lns ln ac mn sm x y).2.2.2.2.2.1) z9)))), (qh, .inl (cI, 861, .inl (fun z9 => nI (((f_R_faceAt u aX aY bX bY kn lns ln ac mn sm x y).2.2.2.2.2.2) z9))))] [(cZ, .boolean), (cI, .int)] A) [.ref q0, .int x, .int y].toArray s 0 0 A) (F0 m 30 ls [])), W p l e { frames := 4, cells := 0, slots := 0, locals := 103 } s m [.ref q0, .int x, .int y].toArray below meth c H locs 0 0 (MQ below (sQi (nI ((f_R_faceAt u aX aY bX bY kn lns ln ac mn sm x y).1)) D [(q0, .inr (3, [.ref qu, .ref qa, .ref qb, .ref qc, .ref qd, .int (b2i ((f_R_faceAt u aX aY bX bY kn lns ln ac mn sm x y).2.1)), .int (nI ((f_R_faceAt u aX aY bX bY kn lns ln ac mn sm x y).2.2.1)), .ref qe, .ref qf, .ref qg, .ref qh])), (qu, .inl (cZ, 20, .inl (fun z9 => b2i (u z9)))), (qa, .inl (cI, 20, .inl aX)), (qb, .inl (cI, 20, .inl aY)), (qc, .inl (cI, 20, .inl bX)), (qd, .inl (cI, 20, .inl bY)), (qe, .inl (cI, 40, .inl ((f_R_faceAt u aX aY bX bY kn lns ln ac mn sm x y).2.2.2.1))), (qf, .inl (cI, 820, .inl (fun z9 => nI (((f_R_faceAt u aX aY bX bY kn lns ln ac mn sm x y).2.2.2.2.1) z9)))), (qg, .inl (cI, 41, .inl (fun z9 => nI (((f_R_faceAt u aX aY bX bY kn lns ln ac mn sm x y).2.2.2.2.2.1) z9)))), (qh, .inl (cI, 861, .inl (fun z9 => nI (((f_R_faceAt u aX aY bX bY kn lns ln ac mn sm x y).2.2.2.2.2.2) z9))))] [(cZ, .boolean), (cI, .int)] A) [.ref q0, .int x, .int y].toArray s 0 0 A) (F0 m 6 ls []) := by
    clear hP hD hS hl
    intro n1
    induction n1 with
    | zero =>
      intro t1 ls1 l1 hk1 hl1 H locs hP hD hS ls hl cont
      refine lv_iload_n hx hb d_R_faceAt_6 rfl (lv_at hl 3 rfl) ?_
      refine lv_aload_n hx hb d_R_faceAt_7 rfl (lv_at hl 0 rfl) ?_
      refine rget S hK hP 0 rfl rfl in_R 6 (by decide) kF_R_86 rfl d_R_faceAt_8 ?_
      refine lv_icmp_ge (tgt := 30) hx hb d_R_faceAt_11 (by decide) (fun c1 => ?_) (fun c1 => ?_)
      · have c1a : ls1 ≤ t1 := (nI_leI (a := ls1) (b := t1) (by omega) (by omega)).mp c1
        exact cont t1 (show fx_R_faceAt_1 x t1 ls1 l1 = t1 from rfl).symm (by omega) _ _ hP hD hS ls (lv_sub hl [0, 1, 2, 3] rfl)
      · have c1a : ¬ (ls1 ≤ t1) := fun h => c1 ((nI_leI (a := ls1) (b := t1) (by omega) (by omega)).mpr h)
        omega
    | succ n1 ih1 =>
      intro t1 ls1 l1 hk1 hl1 H locs hP hD hS ls hl cont
      refine lv_iload_n hx hb d_R_faceAt_6 rfl (lv_at hl 3 rfl) ?_
      refine lv_aload_n hx hb d_R_faceAt_7 rfl (lv_at hl 0 rfl) ?_
      refine rget S hK hP 0 rfl rfl in_R 6 (by decide) kF_R_86 rfl d_R_faceAt_8 ?_
      refine lv_icmp_ge (tgt := 30) hx hb d_R_faceAt_11 (by decide) (fun c2 => ?_) (fun c2 => ?_)
      · have c2a : ls1 ≤ t1 := (nI_leI (a := ls1) (b := t1) (by omega) (by omega)).mp c2
        omega
      · have c2a : ¬ (ls1 ≤ t1) := fun h => c2 ((nI_leI (a := ls1) (b := t1) (by omega) (by omega)).mpr h)
        refine lv_aload_n hx hb d_R_faceAt_14 rfl (lv_at hl 0 rfl) ?_
        refine rget S hK hP 0 rfl rfl in_R 7 (by decide) kF_R_26 rfl d_R_faceAt_15 ?_
        refine lv_iload_n hx hb d_R_faceAt_18 rfl (lv_at hl 3 rfl) ?_
        refine riald (j := t1) S hK hP 6 1 rfl rfl (by omega) (by first | decide | omega) d_R_faceAt_19 ?_
        refine lv_iload_n hx hb d_R_faceAt_20 rfl (lv_at hl 1 rfl) ?_
        refine lv_icmp_gt (tgt := 30) hx hb d_R_faceAt_21 (by decide) (fun c3 => ?_) (fun c3 => ?_)
        · have c3a : x < l1 t1 := c3
          exact cont t1 (show fb_R_faceAt_1 x (fl_R_faceAt_1 x n1) t1 ls1 l1 = t1 from by unfold fb_R_faceAt_1; rw [if_pos c3a]).symm (by omega) _ _ hP hD hS ls (lv_sub hl [0, 1, 2, 3] rfl)
        · have c3a : ¬ (x < l1 t1) := c3
          refine lv_iinc (v := nI (t1 + 1)) (lv' := [(3, .int (nI (t1 + 1))), (0, .ref q0), (1, .int x), (2, .int y)]) hx hb d_R_faceAt_24 hl (k := 3) rfl (nI_1 (t1)) (by decide) rfl (fun ls hl => ?_)
          refine lv_goto (tgt := 6) hx hb d_R_faceAt_27 (by decide) ?_
          exact ih1 (t1 + 1) ls1 l1 (by omega) hl1 _ _ (hP.sub [0, 1, 2, 3, 4, 5, 6, 7, 8, 9] rfl) (hD.sub [0, 1, 2, 3, 4, 5, 6, 7, 8, 9] (by decide) rfl) hS ls (lv_sub hl [1, 2, 3, 0] rfl) (fun res hres => cont res (hres.trans (show fb_R_faceAt_1 x (fl_R_faceAt_1 x n1) t1 ls1 l1 = (fl_R_faceAt_1 x n1 (t1 + 1) ls1 l1) from by unfold fb_R_faceAt_1; rw [if_neg c3a]).symm))
  refine key1 ((f_R_look u aX aY bX bY kn lns ln ac mn sm).2.1) 0 ((f_R_look u aX aY bX bY kn lns ln ac mn sm).2.1) ((f_R_look u aX aY bX bY kn lns ln ac mn sm).2.2.1) (by omega) hQ1 _ _ hP hD hS ls (lv_sub hl [1, 2, 3, 0] rfl) (fun res hres hpt H locs hP hD hS ls hl => ?_)
  subst hres
  have hP : va_P D CLS [(q0, .inr (3, [.ref qu, .ref qa, .ref qb, .ref qc, .ref qd, .int (b2i ((f_R_look u aX aY bX bY kn lns ln ac mn sm).1)), .int (nI ((f_R_look u aX aY bX bY kn lns ln ac mn sm).2.1)), .ref qe, .ref qf, .ref qg, .ref qh])), (qu, .inl (cZ, 20, .inl (fun z9 => b2i (u z9)))), (qa, .inl (cI, 20, .inl aX)), (qb, .inl (cI, 20, .inl aY)), (qc, .inl (cI, 20, .inl bX)), (qd, .inl (cI, 20, .inl bY)), (qe, .inl (cI, 40, .inl ((f_R_look u aX aY bX bY kn lns ln ac mn sm).2.2.1))), (qf, .inl (cI, 820, .inl (fun z9 => nI (((f_R_look u aX aY bX bY kn lns ln ac mn sm).2.2.2.1) z9)))), (qg, .inl (cI, 41, .inl (fun z9 => nI (((f_R_look u aX aY bX bY kn lns ln ac mn sm).2.2.2.2.1) z9)))), (qh, .inl (cI, 861, .inl (fun z9 => nI (((f_R_look u aX aY bX bY kn lns ln ac mn sm).2.2.2.2.2) z9))))] H := hP
  have hD : va_D A [(q0, .inr (3, [.ref qu, .ref qa, .ref qb, .ref qc, .ref qd, .int (b2i ((f_R_look u aX aY bX bY kn lns ln ac mn sm).1)), .int (nI ((f_R_look u aX aY bX bY kn lns ln ac mn sm).2.1)), .ref qe, .ref qf, .ref qg, .ref qh])), (qu, .inl (cZ, 20, .inl (fun z9 => b2i (u z9)))), (qa, .inl (cI, 20, .inl aX)), (qb, .inl (cI, 20, .inl aY)), (qc, .inl (cI, 20, .inl bX)), (qd, .inl (cI, 20, .inl bY)), (qe, .inl (cI, 40, .inl ((f_R_look u aX aY bX bY kn lns ln ac mn sm).2.2.1))), (qf, .inl (cI, 820, .inl (fun z9 => nI (((f_R_look u aX aY bX bY kn lns ln ac mn sm).2.2.2.1) z9)))), (qg, .inl (cI, 41, .inl (fun z9 => nI (((f_R_look u aX aY bX bY kn lns ln ac mn sm).2.2.2.2.1) z9)))), (qh, .inl (cI, 861, .inl (fun z9 => nI (((f_R_look u aX aY bX bY kn lns ln ac mn sm).2.2.2.2.2) z9))))] := hD
  have hl : lv_has ls 4 [(0, .ref q0), (1, .int x), (2, .int y), (3, .int (nI (fl_R_faceAt_1 x ((f_R_look u aX aY bX bY kn lns ln ac mn sm).2.1) 0 ((f_R_look u aX aY bX bY kn lns ln ac mn sm).2.1) ((f_R_look u aX aY bX bY kn lns ln ac mn sm).2.2.1))))] := hl
  refine lv_aload_n hx hb d_R_faceAt_30 rfl (lv_at hl 0 rfl) ?_
  refine lv_aload_n hx hb d_R_faceAt_31 rfl (lv_at hl 0 rfl) ?_
  refine lv_iload_n hx hb d_R_faceAt_32 rfl (lv_at hl 3 rfl) ?_
  refine lv_iload_n hx hb d_R_faceAt_33 rfl (lv_at hl 1 rfl) ?_
  refine lv_iconst (v := 2) hx hb d_R_faceAt_34 (by decide) ?_
  refine lv_iload_n hx hb d_R_faceAt_35 rfl (lv_at hl 2 rfl) ?_
  refine lv_imul hx hb d_R_faceAt_36 ?_
  refine rcallV (rest := [.ref q0]) (v := (f_R_cellAt u aX aY bX bY ((f_R_look u aX aY bX bY kn lns ln ac mn sm).2.2.2.1) ((f_R_look u aX aY bX bY kn lns ln ac mn sm).2.2.2.2.1) (fl_R_faceAt_1 x ((f_R_look u aX aY bX bY kn lns ln ac mn sm).2.1) 0 ((f_R_look u aX aY bX bY kn lns ln ac mn sm).2.1) ((f_R_look u aX aY bX bY kn lns ln ac mn sm).2.2.1)) x (2 * y))) S [.int (nI (fl_R_faceAt_1 x ((f_R_look u aX aY bX bY kn lns ln ac mn sm).2.1) 0 ((f_R_look u aX aY bX bY kn lns ln ac mn sm).2.1) ((f_R_look u aX aY bX bY kn lns ln ac mn sm).2.2.1))), .int x, .int ((2 * y))] hK hP [0, 1, 2, 3, 4, 5, 6, 7, 8, 9] rfl [0, 1] rfl (c_R_cellAt l D q0 qu qa qb qc qd qe qf qg qh cZ cI u aX aY bX bY ((f_R_look u aX aY bX bY kn lns ln ac mn sm).1) ((f_R_look u aX aY bX bY kn lns ln ac mn sm).2.1) ((f_R_look u aX aY bX bY kn lns ln ac mn sm).2.2.1) ((f_R_look u aX aY bX bY kn lns ln ac mn sm).2.2.2.1) ((f_R_look u aX aY bX bY kn lns ln ac mn sm).2.2.2.2.1) ((f_R_look u aX aY bX bY kn lns ln ac mn sm).2.2.2.2.2) (fl_R_faceAt_1 x ((f_R_look u aX aY bX bY kn lns ln ac mn sm).2.1) 0 ((f_R_look u aX aY bX bY kn lns ln ac mn sm).2.1) ((f_R_look u aX aY bX bY kn lns ln ac mn sm).2.2.1)) x (2 * y) (by omega) (by assumption) (by assumption)) i_R_cellAt kL_R_128 ⟨Nat.le_of_ble_eq_true rfl, Nat.le_of_ble_eq_true rfl⟩ (by exact ⟨Nat.zero_le _, Nat.zero_le _⟩) (q0 := 0) (ci := 3) rfl rfl rfl hl.1 rfl (Nat.le_of_ble_eq_true rfl) d_R_faceAt_37 ?_
  obtain ⟨ci, hci, ecn, eci, ecl⟩ := cell_nat (cellAt_ok _ _ _ _ _ _ _ _ _ _) (show ¬ (f_R_cellAt u aX aY bX bY ((f_R_look u aX aY bX bY kn lns ln ac mn sm).2.2.2.1) ((f_R_look u aX aY bX bY kn lns ln ac mn sm).2.2.2.2.1) (fl_R_faceAt_1 x ((f_R_look u aX aY bX bY kn lns ln ac mn sm).2.1) 0 ((f_R_look u aX aY bX bY kn lns ln ac mn sm).2.1) ((f_R_look u aX aY bX bY kn lns ln ac mn sm).2.2.1)) x (2 * y)) = -1 from hF) (by omega) (hQ3 _)
  refine rtop eci ?_
  refine rcallV (rest := []) (v := nI (f_R_face ((f_R_look u aX aY bX bY kn lns ln ac mn sm).2.2.2.2.2) ((f_R_cellAt u aX aY bX bY ((f_R_look u aX aY bX bY kn lns ln ac mn sm).2.2.2.1) ((f_R_look u aX aY bX bY kn lns ln ac mn sm).2.2.2.2.1) (fl_R_faceAt_1 x ((f_R_look u aX aY bX bY kn lns ln ac mn sm).2.1) 0 ((f_R_look u aX aY bX bY kn lns ln ac mn sm).2.1) ((f_R_look u aX aY bX bY kn lns ln ac mn sm).2.2.1)) x (2 * y)).toNatClampNeg))) S [.int (nI ((f_R_cellAt u aX aY bX bY ((f_R_look u aX aY bX bY kn lns ln ac mn sm).2.2.2.1) ((f_R_look u aX aY bX bY kn lns ln ac mn sm).2.2.2.2.1) (fl_R_faceAt_1 x ((f_R_look u aX aY bX bY kn lns ln ac mn sm).2.1) 0 ((f_R_look u aX aY bX bY kn lns ln ac mn sm).2.1) ((f_R_look u aX aY bX bY kn lns ln ac mn sm).2.2.1)) x (2 * y)).toNatClampNeg))] hK hP [0, 1, 2, 3, 4, 5, 6, 7, 8, 9] rfl [0, 1] rfl (c_R_face l D q0 qu qa qb qc qd qe qf qg qh cZ cI u aX aY bX bY ((f_R_look u aX aY bX bY kn lns ln ac mn sm).1) ((f_R_look u aX aY bX bY kn lns ln ac mn sm).2.1) ((f_R_look u aX aY bX bY kn lns ln ac mn sm).2.2.1) ((f_R_look u aX aY bX bY kn lns ln ac mn sm).2.2.2.1) ((f_R_look u aX aY bX bY kn lns ln ac mn sm).2.2.2.2.1) ((f_R_look u aX aY bX bY kn lns ln ac mn sm).2.2.2.2.2) ((f_R_cellAt u aX aY bX bY ((f_R_look u aX aY bX bY kn lns ln ac mn sm).2.2.2.1) ((f_R_look u aX aY bX bY kn lns ln ac mn sm).2.2.2.2.1) (fl_R_faceAt_1 x ((f_R_look u aX aY bX bY kn lns ln ac mn sm).2.1) 0 ((f_R_look u aX aY bX bY kn lns ln ac mn sm).2.1) ((f_R_look u aX aY bX bY kn lns ln ac mn sm).2.2.1)) x (2 * y)).toNatClampNeg) ecl hQ4 (ends_at hQ5 _ ci (by omega) hci ecn (Nat.le_refl _))) i_R_face kL_R_122 ⟨Nat.le_of_ble_eq_true rfl, Nat.le_of_ble_eq_true rfl⟩ (by exact ⟨Nat.zero_le _, Nat.zero_le _⟩) (q0 := 0) (ci := 3) rfl rfl rfl hl.1 rfl (Nat.le_of_ble_eq_true rfl) d_R_faceAt_40 ?_
  have hfl := face_lt ((f_R_look u aX aY bX bY kn lns ln ac mn sm).2.2.2.2.2) ((f_R_cellAt u aX aY bX bY ((f_R_look u aX aY bX bY kn lns ln ac mn sm).2.2.2.1) ((f_R_look u aX aY bX bY kn lns ln ac mn sm).2.2.2.2.1) (fl_R_faceAt_1 x ((f_R_look u aX aY bX bY kn lns ln ac mn sm).2.1) 0 ((f_R_look u aX aY bX bY kn lns ln ac mn sm).2.1) ((f_R_look u aX aY bX bY kn lns ln ac mn sm).2.2.1)) x (2 * y)).toNatClampNeg) (by first | omega | assumption) (by assumption)
  have eqf := (show f_R_faceAt u aX aY bX bY kn lns ln ac mn sm x y = (f_R_face ((f_R_look u aX aY bX bY kn lns ln ac mn sm).2.2.2.2.2) ((f_R_cellAt u aX aY bX bY ((f_R_look u aX aY bX bY kn lns ln ac mn sm).2.2.2.1) ((f_R_look u aX aY bX bY kn lns ln ac mn sm).2.2.2.2.1) (fl_R_faceAt_1 x ((f_R_look u aX aY bX bY kn lns ln ac mn sm).2.1) 0 ((f_R_look u aX aY bX bY kn lns ln ac mn sm).2.1) ((f_R_look u aX aY bX bY kn lns ln ac mn sm).2.2.1)) x (2 * y)).toNatClampNeg), ((f_R_look u aX aY bX bY kn lns ln ac mn sm).1), ((f_R_look u aX aY bX bY kn lns ln ac mn sm).2.1), (f_R_look u aX aY bX bY kn lns ln ac mn sm).2.2.1, (f_R_look u aX aY bX bY kn lns ln ac mn sm).2.2.2.1, (f_R_look u aX aY bX bY kn lns ln ac mn sm).2.2.2.2.1, (f_R_look u aX aY bX bY kn lns ln ac mn sm).2.2.2.2.2) from rfl)
  exact rretI S hr hlk (v := nI (f_R_face ((f_R_look u aX aY bX bY kn lns ln ac mn sm).2.2.2.2.2) ((f_R_cellAt u aX aY bX bY ((f_R_look u aX aY bX bY kn lns ln ac mn sm).2.2.2.1) ((f_R_look u aX aY bX bY kn lns ln ac mn sm).2.2.2.2.1) (fl_R_faceAt_1 x ((f_R_look u aX aY bX bY kn lns ln ac mn sm).2.1) 0 ((f_R_look u aX aY bX bY kn lns ln ac mn sm).2.1) ((f_R_look u aX aY bX bY kn lns ln ac mn sm).2.2.1)) x (2 * y)).toNatClampNeg))) (by rw [eqf]) (by rw [eqf]) hP hK hD hS d_R_faceAt_43
def fx_R_faceBy_1 (aX : Nat → Int32) (ln : Nat → Int32) (k : Nat) (s1 : Nat) : (Nat) := s1
def fb_R_faceBy_1 (aX : Nat → Int32) (ln : Nat → Int32) (k : Nat) (rec : (Nat) → (Nat)) (s1 : Nat) : (Nat) := if ln s1 = aX k then s1 else (rec (s1 + 1))
def fl_R_faceBy_1 (aX : Nat → Int32) (ln : Nat → Int32) (k : Nat) : Nat → (Nat) → (Nat)
  | 0, s1 => fx_R_faceBy_1 aX ln k s1
  | n1 + 1, s1 => fb_R_faceBy_1 aX ln k (fl_R_faceBy_1 aX ln k n1) s1
def fx_R_faceBy_2 (ac : Nat → Nat) (k : Nat) (i2 : Nat) (s2 : Nat) : (Nat) := i2
def fb_R_faceBy_2 (ac : Nat → Nat) (k : Nat) (rec : (Nat) → (Nat) → (Nat)) (i2 : Nat) (s2 : Nat) : (Nat) := if (ac ((20 * (s2 + 1)) + i2)) = k then i2 else (rec (i2 + 1) s2)
def fl_R_faceBy_2 (ac : Nat → Nat) (k : Nat) : Nat → (Nat) → (Nat) → (Nat)
  | 0, i2, s2 => fx_R_faceBy_2 ac k i2 s2
  | n2 + 1, i2, s2 => fb_R_faceBy_2 ac k (fl_R_faceBy_2 ac k n2) i2 s2
def f_R_faceBy (u : Nat → Bool) (aX : Nat → Int32) (aY : Nat → Int32) (bX : Nat → Int32) (bY : Nat → Int32) (lns : Nat) (ln : Nat → Int32) (ac : Nat → Nat) (mn : Nat → Nat) (sm : Nat → Nat) (k : Nat) (wh : Int32) : Nat := if f_R_isUpright u aX aY bX bY k = true then (if wh = 1 then (f_R_face sm ((f_R_cellAt u aX aY bX bY ac mn (fl_R_faceBy_1 aX ln k (lns - 1) 0) (aX k) (aY k + bY k)).toNatClampNeg)) else (f_R_face sm ((f_R_cellAt u aX aY bX bY ac mn ((fl_R_faceBy_1 aX ln k (lns - 1) 0) + 1) (aX k) (aY k + bY k)).toNatClampNeg))) else (if wh = 1 then (f_R_face sm ((21 * ((fl_R_faceBy_1 aX ln k (lns - 1) 0) + 1)) + ((fl_R_faceBy_2 ac k (mn ((fl_R_faceBy_1 aX ln k (lns - 1) 0) + 1) - 1) 0 (fl_R_faceBy_1 aX ln k (lns - 1) 0)) + 1))) else (f_R_face sm ((21 * ((fl_R_faceBy_1 aX ln k (lns - 1) 0) + 1)) + (fl_R_faceBy_2 ac k (mn ((fl_R_faceBy_1 aX ln k (lns - 1) 0) + 1) - 1) 0 (fl_R_faceBy_1 aX ln k (lns - 1) 0)))))
def FBok (u : Nat → Bool) (aX aY bX bY : Nat → Int32) (lns : Nat) (ln : Nat → Int32) (ac mn : Nat → Nat) (k : Nat) (wh : Int32) : Prop :=
  (∃ t, 0 ≤ t ∧ t < lns ∧ ln t = aX k) ∧ (f_R_isUpright u aX aY bX bY k = true → wh = 1 → ¬ f_R_cellAt u aX aY bX bY ac mn (fl_R_faceBy_1 aX ln k (lns - 1) 0) (aX k) (aY k + bY k) = -1) ∧
  (f_R_isUpright u aX aY bX bY k = true → ¬ wh = 1 → ¬ f_R_cellAt u aX aY bX bY ac mn (fl_R_faceBy_1 aX ln k (lns - 1) 0 + 1) (aX k) (aY k + bY k) = -1) ∧
  (¬ f_R_isUpright u aX aY bX bY k = true → ∃ t, 0 ≤ t ∧ t < mn (fl_R_faceBy_1 aX ln k (lns - 1) 0 + 1) ∧ ac (20 * (fl_R_faceBy_1 aX ln k (lns - 1) 0 + 1) + t) = k)
theorem first_next {P : Nat → Prop} {s L : Nat} (h : ∃ t, s ≤ t ∧ t < L ∧ P t) (hs : ¬ P s) : ∃ t, s + 1 ≤ t ∧ t < L ∧ P t := by
  obtain ⟨t, h1, h2, h3⟩ := h
  refine ⟨t, ?_, h2, h3⟩
  rcases Nat.lt_or_ge s t with q | q
  · exact q
  · exact absurd ((show t = s by omega) ▸ h3) hs
theorem i_R_faceBy : inV y_R_faceBy b_R_faceBy 5 (some .int) 2 := ⟨kM_y_R_faceBy, kV_y_R_faceBy, kI_R, kY_y_R_faceBy, by decide +kernel⟩
set_option maxHeartbeats 4000000 in
set_option maxRecDepth 100000 in
theorem c_R_faceBy (l : Launch) (D : va_G) (q0 qu qa qb qc qd qe qf qg qh : Nat) (cZ cI : ClassId) (u : Nat → Bool) (aX aY bX bY : Nat → Int32) (kn : Bool) (lns : Nat) (ln : Nat → Int32) (ac mn sm : Nat → Nat) (k : Nat) (wh : Int32) (hk : k < 20) (hRI : RInv lns ac mn sm) (hfb : FBok u aX aY bX bY lns ln ac mn k wh) : PM l y_R_faceBy b_R_faceBy 5 (some .int) 3 71 D (refW q0 qu qa qb qc qd qe qf qg qh cZ cI u aX aY bX bY kn lns ln ac mn sm) [(cZ, .boolean), (cI, .int)] [.ref q0, .int (nI (k)), .int wh] (nI (f_R_faceBy u aX aY bX bY lns ln ac mn sm k wh)) := by
  refine pMet rfl (fun p e s m below meth c S hr hlk hP hK ls hl => ?_) (Nat.le_of_ble_eq_true rfl)
  have hx := S.1
  have hb := S.2.1
  have hl : lv_has ls 5 [(0, .ref q0), (1, .int (nI (k))), (2, .int wh)] := hl
  have hln := hRI.1
  have hAc := hRI.2.1
  have hMn := hRI.2.2.1
  have hSm := hRI.2.2.2.1
  have hV := hRI.2.2.2.2
  obtain ⟨t0, ht0a, ht0b, ht0c⟩ := id hfb.1
  refine lv_iconst (v := 0) hx hb d_R_faceBy_0 (by decide) ?_
  refine lv_istore_n (lv' := [(3, .int 0), (0, .ref q0), (1, .int (nI (k))), (2, .int wh)]) hx hb d_R_faceBy_1 rfl hl (by decide) rfl (fun ls hl => ?_)
  have key1 : ∀ (n1 : Nat) (s1 : Nat) (hk1 : s1 + n1 + 1 = lns) (hex : ∃ t, s1 ≤ t ∧ t < lns ∧ ln t = aX k) (ls : Array Slot) (hl : lv_has ls 5 [(0, .ref q0), (1, .int (nI (k))), (2, .int wh), (3, .int (nI (s1)))]) (cont : ∀ (res : (Nat)), res = fl_R_faceBy_1 aX ln k n1 s1 → (res < lns) → ∀ ls : Array Slot, lv_has ls 5 [(0, .ref q0), (1, .int (nI (k))), (2, .int wh), (3, .int (nI (res)))] → W p l e { frames := 3, cells := 0, slots := 0, locals := 71 } s m [.ref q0, .int (nI (k)), .int wh].toArray below meth c s.heap [] 0 0 (MQ below (pQ (nI (f_R_faceBy u aX aY bX bY lns ln ac mn sm k wh))) [.ref q0, .int (nI (k)), .int wh].toArray s 0 0 (fun _ => False)) (F0 m 23 ls [])), W p l e { frames := 3, cells := 0, slots := 0, locals := 71 } s m [.ref q0, .int (nI (k)), .int wh].toArray below meth c s.heap [] 0 0 (MQ below (pQ (nI (f_R_faceBy u aX aY bX bY lns ln ac mn sm k wh))) [.ref q0, .int (nI (k)), .int wh].toArray s 0 0 (fun _ => False)) (F0 m 2 ls []) := by
    clear hl
    intro n1
    induction n1 with
    | zero =>
      intro s1 hk1 hex ls hl cont
      obtain ⟨t, ht1, ht2, ht3⟩ := id hex
      refine lv_aload_n hx hb d_R_faceBy_2 rfl (lv_at hl 0 rfl) ?_
      refine rget S hK hP 0 rfl rfl in_R 7 (by decide) kF_R_26 rfl d_R_faceBy_3 ?_
      refine lv_iload_n hx hb d_R_faceBy_6 rfl (lv_at hl 3 rfl) ?_
      refine riald (j := s1) S hK hP 6 1 rfl rfl (by omega) (by first | decide | omega) d_R_faceBy_7 ?_
      refine lv_aload_n hx hb d_R_faceBy_8 rfl (lv_at hl 0 rfl) ?_
      refine rget S hK hP 0 rfl rfl in_R 1 (by decide) kF_R_13 rfl d_R_faceBy_9 ?_
      refine lv_iload_n hx hb d_R_faceBy_12 rfl (lv_at hl 1 rfl) ?_
      refine riald (j := k) S hK hP 2 1 rfl rfl (by omega) (by first | decide | omega) d_R_faceBy_13 ?_
      refine lv_icmp_eq (tgt := 23) hx hb d_R_faceBy_14 (by decide) (fun c1 => ?_) (fun c1 => ?_)
      · have c1a : ln s1 = aX k := c1
        exact cont s1 (show fx_R_faceBy_1 aX ln k s1 = s1 from rfl).symm (by omega) ls (lv_sub hl [0, 1, 2, 3] rfl)
      · have c1a : ¬ (ln s1 = aX k) := c1
        exact absurd (by rw [show s1 = t by omega]; exact ht3) c1a
    | succ n1 ih1 =>
      intro s1 hk1 hex ls hl cont
      obtain ⟨t, ht1, ht2, ht3⟩ := id hex
      refine lv_aload_n hx hb d_R_faceBy_2 rfl (lv_at hl 0 rfl) ?_
      refine rget S hK hP 0 rfl rfl in_R 7 (by decide) kF_R_26 rfl d_R_faceBy_3 ?_
      refine lv_iload_n hx hb d_R_faceBy_6 rfl (lv_at hl 3 rfl) ?_
      refine riald (j := s1) S hK hP 6 1 rfl rfl (by omega) (by first | decide | omega) d_R_faceBy_7 ?_
      refine lv_aload_n hx hb d_R_faceBy_8 rfl (lv_at hl 0 rfl) ?_
      refine rget S hK hP 0 rfl rfl in_R 1 (by decide) kF_R_13 rfl d_R_faceBy_9 ?_
      refine lv_iload_n hx hb d_R_faceBy_12 rfl (lv_at hl 1 rfl) ?_
      refine riald (j := k) S hK hP 2 1 rfl rfl (by omega) (by first | decide | omega) d_R_faceBy_13 ?_
      refine lv_icmp_eq (tgt := 23) hx hb d_R_faceBy_14 (by decide) (fun c2 => ?_) (fun c2 => ?_)
      · have c2a : ln s1 = aX k := c2
        exact cont s1 (show fb_R_faceBy_1 aX ln k (fl_R_faceBy_1 aX ln k n1) s1 = s1 from by unfold fb_R_faceBy_1; rw [if_pos c2a]).symm (by omega) ls (lv_sub hl [0, 1, 2, 3] rfl)
      · have c2a : ¬ (ln s1 = aX k) := c2
        refine lv_iinc (v := nI (s1 + 1)) (lv' := [(3, .int (nI (s1 + 1))), (0, .ref q0), (1, .int (nI (k))), (2, .int wh)]) hx hb d_R_faceBy_17 hl (k := 3) rfl (nI_1 (s1)) (by decide) rfl (fun ls hl => ?_)
        refine lv_goto (tgt := 2) hx hb d_R_faceBy_20 (by decide) ?_
        exact ih1 (s1 + 1) (by omega) (first_next (P := fun t => ln t = aX k) hex c2a) ls (lv_sub hl [1, 2, 3, 0] rfl) (fun res hres => cont res (hres.trans (show fb_R_faceBy_1 aX ln k (fl_R_faceBy_1 aX ln k n1) s1 = (fl_R_faceBy_1 aX ln k n1 (s1 + 1)) from by unfold fb_R_faceBy_1; rw [if_neg c2a]).symm))
  refine key1 (lns - 1) 0 (by omega) hfb.1 ls (lv_sub hl [1, 2, 3, 0] rfl) (fun res hres hps ls hl => ?_)
  subst hres
  have hl : lv_has ls 5 [(0, .ref q0), (1, .int (nI (k))), (2, .int wh), (3, .int (nI (fl_R_faceBy_1 aX ln k (lns - 1) 0)))] := hl
  refine lv_aload_n hx hb d_R_faceBy_23 rfl (lv_at hl 0 rfl) ?_
  refine lv_iload_n hx hb d_R_faceBy_24 rfl (lv_at hl 1 rfl) ?_
  refine rcallV (rest := []) (v := b2i (f_R_isUpright u aX aY bX bY k)) S [.int (nI (k))] hK hP [0, 1, 2, 3, 4, 5, 6, 7, 8, 9] rfl [0, 1] rfl (c_R_isUpright l D q0 qu qa qb qc qd qe qf qg qh cZ cI u aX aY bX bY kn lns ln ac mn sm k (by omega)) i_R_isUpright kL_R_109 ⟨Nat.le_of_ble_eq_true rfl, Nat.le_of_ble_eq_true rfl⟩ (by exact ⟨Nat.zero_le _, Nat.zero_le _⟩) (q0 := 0) (ci := 3) rfl rfl rfl hl.1 rfl (Nat.le_of_ble_eq_true rfl) d_R_faceBy_25 ?_
  refine lv_if_eq (tgt := 71) hx hb d_R_faceBy_28 (by decide) (fun c3 => ?_) (fun c3 => ?_)
  · have c3a : ¬ (f_R_isUpright u aX aY bX bY k = true) := b2n (b2i_eq0.mp c3)
    refine lv_iconst (v := 0) hx hb d_R_faceBy_71 (by decide) ?_
    refine lv_istore (lv' := [(4, .int 0), (0, .ref q0), (1, .int (nI (k))), (2, .int wh), (3, .int (nI (fl_R_faceBy_1 aX ln k (lns - 1) 0)))]) hx hb d_R_faceBy_72 hl (by decide) rfl (fun ls hl => ?_)
    have key2 : ∀ (n2 : Nat) (i2 : Nat) (s2 : Nat) (hk2 : i2 + n2 + 1 = mn (s2 + 1)) (hs2 : s2 < lns) (hex2 : ∃ t, i2 ≤ t ∧ t < mn (s2 + 1) ∧ ac (20 * (s2 + 1) + t) = k) (ls : Array Slot) (hl : lv_has ls 5 [(0, .ref q0), (1, .int (nI (k))), (2, .int wh), (3, .int (nI (s2))), (4, .int (nI (i2)))]) (cont : ∀ (res : (Nat)), res = fl_R_faceBy_2 ac k n2 i2 s2 → (res < mn (s2 + 1)) → ∀ ls : Array Slot, lv_has ls 5 [(0, .ref q0), (1, .int (nI (k))), (2, .int wh), (3, .int (nI (s2))), (4, .int (nI (res)))] → W p l e { frames := 3, cells := 0, slots := 0, locals := 71 } s m [.ref q0, .int (nI (k)), .int wh].toArray below meth c s.heap [] 0 0 (MQ below (pQ (nI (f_R_faceBy u aX aY bX bY lns ln ac mn sm k wh))) [.ref q0, .int (nI (k)), .int wh].toArray s 0 0 (fun _ => False)) (F0 m 98 ls [])), W p l e { frames := 3, cells := 0, slots := 0, locals := 71 } s m [.ref q0, .int (nI (k)), .int wh].toArray below meth c s.heap [] 0 0 (MQ below (pQ (nI (f_R_faceBy u aX aY bX bY lns ln ac mn sm k wh))) [.ref q0, .int (nI (k)), .int wh].toArray s 0 0 (fun _ => False)) (F0 m 74 ls []) := by
      clear hl
      intro n2
      induction n2 with
      | zero =>
        intro i2 s2 hk2 hs2 hex2 ls hl cont
        obtain ⟨t, ht1, ht2, ht3⟩ := id hex2
        have hm2 := hMn (s2 + 1)
        refine lv_aload_n hx hb d_R_faceBy_74 rfl (lv_at hl 0 rfl) ?_
        refine rget S hK hP 0 rfl rfl in_R 8 (by decide) kF_R_29 rfl d_R_faceBy_75 ?_
        refine lv_bipush (v := 20) hx hb d_R_faceBy_78 (by decide) ?_
        refine lv_iload_n hx hb d_R_faceBy_80 rfl (lv_at hl 3 rfl) ?_
        refine lv_iconst (v := 1) hx hb d_R_faceBy_81 (by decide) ?_
        refine lv_iadd hx hb d_R_faceBy_82 ?_
        refine rtop (y := nI (s2 + 1)) (nI_add (s2) (1)) ?_
        refine lv_imul hx hb d_R_faceBy_83 ?_
        refine rtop (y := nI (20 * (s2 + 1))) (pk_mul (20) (s2 + 1)) ?_
        refine lv_iload hx hb d_R_faceBy_84 (lv_at hl 4 rfl) ?_
        refine lv_iadd hx hb d_R_faceBy_86 ?_
        refine rtop (y := nI ((20 * (s2 + 1)) + i2)) (nI_add (20 * (s2 + 1)) (i2)) ?_
        refine rnald (j := (20 * (s2 + 1)) + i2) S hK hP 7 1 rfl rfl (by omega) (by first | decide | omega) d_R_faceBy_87 ?_
        refine lv_iload_n hx hb d_R_faceBy_88 rfl (lv_at hl 1 rfl) ?_
        refine lv_icmp_eq (tgt := 98) hx hb d_R_faceBy_89 (by decide) (fun c4 => ?_) (fun c4 => ?_)
        · have c4a : (ac ((20 * (s2 + 1)) + i2)) = k := (nI_eq (a := ac ((20 * (s2 + 1)) + i2)) (b := k) (Nat.lt_trans (hAc _) (by decide)) (by omega)).mp c4
          exact cont i2 (show fx_R_faceBy_2 ac k i2 s2 = i2 from rfl).symm (by omega) ls (lv_sub hl [0, 1, 2, 3, 4] rfl)
        · have c4a : ¬ ((ac ((20 * (s2 + 1)) + i2)) = k) := fun h => c4 ((nI_eq (a := ac ((20 * (s2 + 1)) + i2)) (b := k) (Nat.lt_trans (hAc _) (by decide)) (by omega)).mpr h)
          exact absurd (by rw [show i2 = t by omega]; exact ht3) c4a
      | succ n2 ih2 =>
        intro i2 s2 hk2 hs2 hex2 ls hl cont
        obtain ⟨t, ht1, ht2, ht3⟩ := id hex2
        have hm2 := hMn (s2 + 1)
        refine lv_aload_n hx hb d_R_faceBy_74 rfl (lv_at hl 0 rfl) ?_
        refine rget S hK hP 0 rfl rfl in_R 8 (by decide) kF_R_29 rfl d_R_faceBy_75 ?_
        refine lv_bipush (v := 20) hx hb d_R_faceBy_78 (by decide) ?_
        refine lv_iload_n hx hb d_R_faceBy_80 rfl (lv_at hl 3 rfl) ?_
        refine lv_iconst (v := 1) hx hb d_R_faceBy_81 (by decide) ?_
        refine lv_iadd hx hb d_R_faceBy_82 ?_
        refine rtop (y := nI (s2 + 1)) (nI_add (s2) (1)) ?_
        refine lv_imul hx hb d_R_faceBy_83 ?_
        refine rtop (y := nI (20 * (s2 + 1))) (pk_mul (20) (s2 + 1)) ?_
        refine lv_iload hx hb d_R_faceBy_84 (lv_at hl 4 rfl) ?_
        refine lv_iadd hx hb d_R_faceBy_86 ?_
        refine rtop (y := nI ((20 * (s2 + 1)) + i2)) (nI_add (20 * (s2 + 1)) (i2)) ?_
        refine rnald (j := (20 * (s2 + 1)) + i2) S hK hP 7 1 rfl rfl (by omega) (by first | decide | omega) d_R_faceBy_87 ?_
        refine lv_iload_n hx hb d_R_faceBy_88 rfl (lv_at hl 1 rfl) ?_
        refine lv_icmp_eq (tgt := 98) hx hb d_R_faceBy_89 (by decide) (fun c5 => ?_) (fun c5 => ?_)
        · have c5a : (ac ((20 * (s2 + 1)) + i2)) = k := (nI_eq (a := ac ((20 * (s2 + 1)) + i2)) (b := k) (Nat.lt_trans (hAc _) (by decide)) (by omega)).mp c5
          exact cont i2 (show fb_R_faceBy_2 ac k (fl_R_faceBy_2 ac k n2) i2 s2 = i2 from by unfold fb_R_faceBy_2; rw [if_pos c5a]).symm (by omega) ls (lv_sub hl [0, 1, 2, 3, 4] rfl)
        · have c5a : ¬ ((ac ((20 * (s2 + 1)) + i2)) = k) := fun h => c5 ((nI_eq (a := ac ((20 * (s2 + 1)) + i2)) (b := k) (Nat.lt_trans (hAc _) (by decide)) (by omega)).mpr h)
          refine lv_iinc (v := nI (i2 + 1)) (lv' := [(4, .int (nI (i2 + 1))), (0, .ref q0), (1, .int (nI (k))), (2, .int wh), (3, .int (nI (s2)))]) hx hb d_R_faceBy_92 hl (k := 4) rfl (nI_1 (i2)) (by decide) rfl (fun ls hl => ?_)
          refine lv_goto (tgt := 74) hx hb d_R_faceBy_95 (by decide) ?_
          exact ih2 (i2 + 1) s2 (by omega) hs2 (first_next (P := fun t => ac (20 * (s2 + 1) + t) = k) hex2 c5a) ls (lv_sub hl [1, 2, 3, 4, 0] rfl) (fun res hres => cont res (hres.trans (show fb_R_faceBy_2 ac k (fl_R_faceBy_2 ac k n2) i2 s2 = (fl_R_faceBy_2 ac k n2 (i2 + 1) s2) from by unfold fb_R_faceBy_2; rw [if_neg c5a]).symm))
    refine key2 (mn ((fl_R_faceBy_1 aX ln k (lns - 1) 0) + 1) - 1) 0 (fl_R_faceBy_1 aX ln k (lns - 1) 0) (by obtain ⟨t, ht1, ht2, ht3⟩ := hfb.2.2.2 ‹_›; omega) hps (hfb.2.2.2 ‹_›) ls (lv_sub hl [1, 2, 3, 4, 0] rfl) (fun res hres hpi ls hl => ?_)
    subst hres
    have hl : lv_has ls 5 [(0, .ref q0), (1, .int (nI (k))), (2, .int wh), (3, .int (nI (fl_R_faceBy_1 aX ln k (lns - 1) 0))), (4, .int (nI (fl_R_faceBy_2 ac k (mn ((fl_R_faceBy_1 aX ln k (lns - 1) 0) + 1) - 1) 0 (fl_R_faceBy_1 aX ln k (lns - 1) 0))))] := hl
    have hmS := hMn ((fl_R_faceBy_1 aX ln k (lns - 1) 0) + 1)
    refine lv_aload_n hx hb d_R_faceBy_98 rfl (lv_at hl 0 rfl) ?_
    refine lv_bipush (v := 21) hx hb d_R_faceBy_99 (by decide) ?_
    refine lv_iload_n hx hb d_R_faceBy_101 rfl (lv_at hl 3 rfl) ?_
    refine lv_iconst (v := 1) hx hb d_R_faceBy_102 (by decide) ?_
    refine lv_iadd hx hb d_R_faceBy_103 ?_
    refine rtop (y := nI ((fl_R_faceBy_1 aX ln k (lns - 1) 0) + 1)) (nI_add (fl_R_faceBy_1 aX ln k (lns - 1) 0) (1)) ?_
    refine lv_imul hx hb d_R_faceBy_104 ?_
    refine rtop (y := nI (21 * ((fl_R_faceBy_1 aX ln k (lns - 1) 0) + 1))) (pk_mul (21) ((fl_R_faceBy_1 aX ln k (lns - 1) 0) + 1)) ?_
    refine lv_iload_n hx hb d_R_faceBy_105 rfl (lv_at hl 2 rfl) ?_
    refine lv_iconst (v := 1) hx hb d_R_faceBy_106 (by decide) ?_
    refine lv_icmp_ne (tgt := 117) hx hb d_R_faceBy_107 (by decide) (fun c6 => ?_) (fun c6 => ?_)
    · have c6a : ¬ (wh = 1) := c6
      refine lv_iload hx hb d_R_faceBy_117 (lv_at hl 4 rfl) ?_
      refine lv_iadd hx hb d_R_faceBy_119 ?_
      refine rtop (y := nI ((21 * ((fl_R_faceBy_1 aX ln k (lns - 1) 0) + 1)) + (fl_R_faceBy_2 ac k (mn ((fl_R_faceBy_1 aX ln k (lns - 1) 0) + 1) - 1) 0 (fl_R_faceBy_1 aX ln k (lns - 1) 0)))) (nI_add (21 * ((fl_R_faceBy_1 aX ln k (lns - 1) 0) + 1)) (fl_R_faceBy_2 ac k (mn ((fl_R_faceBy_1 aX ln k (lns - 1) 0) + 1) - 1) 0 (fl_R_faceBy_1 aX ln k (lns - 1) 0))) ?_
      refine rcallV (rest := []) (v := nI (f_R_face sm ((21 * ((fl_R_faceBy_1 aX ln k (lns - 1) 0) + 1)) + (fl_R_faceBy_2 ac k (mn ((fl_R_faceBy_1 aX ln k (lns - 1) 0) + 1) - 1) 0 (fl_R_faceBy_1 aX ln k (lns - 1) 0))))) S [.int (nI ((21 * ((fl_R_faceBy_1 aX ln k (lns - 1) 0) + 1)) + (fl_R_faceBy_2 ac k (mn ((fl_R_faceBy_1 aX ln k (lns - 1) 0) + 1) - 1) 0 (fl_R_faceBy_1 aX ln k (lns - 1) 0))))] hK hP [0, 1, 2, 3, 4, 5, 6, 7, 8, 9] rfl [0, 1] rfl (c_R_face l D q0 qu qa qb qc qd qe qf qg qh cZ cI u aX aY bX bY kn lns ln ac mn sm ((21 * ((fl_R_faceBy_1 aX ln k (lns - 1) 0) + 1)) + (fl_R_faceBy_2 ac k (mn ((fl_R_faceBy_1 aX ln k (lns - 1) 0) + 1) - 1) 0 (fl_R_faceBy_1 aX ln k (lns - 1) 0))) (by omega) hSm (by first | exact ends_at hV _ ci (by omega) hci ecn (Nat.le_refl _) | exact ends_at hV _ _ (by omega) (by omega) rfl (Nat.le_refl _))) i_R_face kL_R_122 ⟨Nat.le_of_ble_eq_true rfl, Nat.le_of_ble_eq_true rfl⟩ (by exact ⟨Nat.zero_le _, Nat.zero_le _⟩) (q0 := 0) (ci := 3) rfl rfl rfl hl.1 rfl (Nat.le_of_ble_eq_true rfl) d_R_faceBy_120 ?_
      have hfl := face_lt sm ((21 * ((fl_R_faceBy_1 aX ln k (lns - 1) 0) + 1)) + (fl_R_faceBy_2 ac k (mn ((fl_R_faceBy_1 aX ln k (lns - 1) 0) + 1) - 1) 0 (fl_R_faceBy_1 aX ln k (lns - 1) 0))) (by first | omega | assumption) (by assumption)
      exact rret S hr hlk (v := nI (f_R_face sm ((21 * ((fl_R_faceBy_1 aX ln k (lns - 1) 0) + 1)) + (fl_R_faceBy_2 ac k (mn ((fl_R_faceBy_1 aX ln k (lns - 1) 0) + 1) - 1) 0 (fl_R_faceBy_1 aX ln k (lns - 1) 0))))) (congrArg nI (show f_R_faceBy u aX aY bX bY lns ln ac mn sm k wh = (f_R_face sm ((21 * ((fl_R_faceBy_1 aX ln k (lns - 1) 0) + 1)) + (fl_R_faceBy_2 ac k (mn ((fl_R_faceBy_1 aX ln k (lns - 1) 0) + 1) - 1) 0 (fl_R_faceBy_1 aX ln k (lns - 1) 0)))) from by unfold f_R_faceBy; rw [if_neg c3a, if_neg c6a]).symm) d_R_faceBy_123
    · have c6a : wh = 1 := c6
      refine lv_iload hx hb d_R_faceBy_110 (lv_at hl 4 rfl) ?_
      refine lv_iconst (v := 1) hx hb d_R_faceBy_112 (by decide) ?_
      refine lv_iadd hx hb d_R_faceBy_113 ?_
      refine rtop (y := nI ((fl_R_faceBy_2 ac k (mn ((fl_R_faceBy_1 aX ln k (lns - 1) 0) + 1) - 1) 0 (fl_R_faceBy_1 aX ln k (lns - 1) 0)) + 1)) (nI_add (fl_R_faceBy_2 ac k (mn ((fl_R_faceBy_1 aX ln k (lns - 1) 0) + 1) - 1) 0 (fl_R_faceBy_1 aX ln k (lns - 1) 0)) (1)) ?_
      refine lv_goto (tgt := 119) hx hb d_R_faceBy_114 (by decide) ?_
      refine lv_iadd hx hb d_R_faceBy_119 ?_
      refine rtop (y := nI ((21 * ((fl_R_faceBy_1 aX ln k (lns - 1) 0) + 1)) + ((fl_R_faceBy_2 ac k (mn ((fl_R_faceBy_1 aX ln k (lns - 1) 0) + 1) - 1) 0 (fl_R_faceBy_1 aX ln k (lns - 1) 0)) + 1))) (nI_add (21 * ((fl_R_faceBy_1 aX ln k (lns - 1) 0) + 1)) ((fl_R_faceBy_2 ac k (mn ((fl_R_faceBy_1 aX ln k (lns - 1) 0) + 1) - 1) 0 (fl_R_faceBy_1 aX ln k (lns - 1) 0)) + 1)) ?_
      refine rcallV (rest := []) (v := nI (f_R_face sm ((21 * ((fl_R_faceBy_1 aX ln k (lns - 1) 0) + 1)) + ((fl_R_faceBy_2 ac k (mn ((fl_R_faceBy_1 aX ln k (lns - 1) 0) + 1) - 1) 0 (fl_R_faceBy_1 aX ln k (lns - 1) 0)) + 1)))) S [.int (nI ((21 * ((fl_R_faceBy_1 aX ln k (lns - 1) 0) + 1)) + ((fl_R_faceBy_2 ac k (mn ((fl_R_faceBy_1 aX ln k (lns - 1) 0) + 1) - 1) 0 (fl_R_faceBy_1 aX ln k (lns - 1) 0)) + 1)))] hK hP [0, 1, 2, 3, 4, 5, 6, 7, 8, 9] rfl [0, 1] rfl (c_R_face l D q0 qu qa qb qc qd qe qf qg qh cZ cI u aX aY bX bY kn lns ln ac mn sm ((21 * ((fl_R_faceBy_1 aX ln k (lns - 1) 0) + 1)) + ((fl_R_faceBy_2 ac k (mn ((fl_R_faceBy_1 aX ln k (lns - 1) 0) + 1) - 1) 0 (fl_R_faceBy_1 aX ln k (lns - 1) 0)) + 1)) (by omega) hSm (by first | exact ends_at hV _ ci (by omega) hci ecn (Nat.le_refl _) | exact ends_at hV _ _ (by omega) (by omega) rfl (Nat.le_refl _))) i_R_face kL_R_122 ⟨Nat.le_of_ble_eq_true rfl, Nat.le_of_ble_eq_true rfl⟩ (by exact ⟨Nat.zero_le _, Nat.zero_le _⟩) (q0 := 0) (ci := 3) rfl rfl rfl hl.1 rfl (Nat.le_of_ble_eq_true rfl) d_R_faceBy_120 ?_
      have hfl := face_lt sm ((21 * ((fl_R_faceBy_1 aX ln k (lns - 1) 0) + 1)) + ((fl_R_faceBy_2 ac k (mn ((fl_R_faceBy_1 aX ln k (lns - 1) 0) + 1) - 1) 0 (fl_R_faceBy_1 aX ln k (lns - 1) 0)) + 1)) (by first | omega | assumption) (by assumption)
      exact rret S hr hlk (v := nI (f_R_face sm ((21 * ((fl_R_faceBy_1 aX ln k (lns - 1) 0) + 1)) + ((fl_R_faceBy_2 ac k (mn ((fl_R_faceBy_1 aX ln k (lns - 1) 0) + 1) - 1) 0 (fl_R_faceBy_1 aX ln k (lns - 1) 0)) + 1)))) (congrArg nI (show f_R_faceBy u aX aY bX bY lns ln ac mn sm k wh = (f_R_face sm ((21 * ((fl_R_faceBy_1 aX ln k (lns - 1) 0) + 1)) + ((fl_R_faceBy_2 ac k (mn ((fl_R_faceBy_1 aX ln k (lns - 1) 0) + 1) - 1) 0 (fl_R_faceBy_1 aX ln k (lns - 1) 0)) + 1))) from by unfold f_R_faceBy; rw [if_neg c3a, if_pos c6a]).symm) d_R_faceBy_123
  · have c3a : f_R_isUpright u aX aY bX bY k = true := b2i_ne0.mp c3
    refine lv_aload_n hx hb d_R_faceBy_31 rfl (lv_at hl 0 rfl) ?_
    refine lv_aload_n hx hb d_R_faceBy_32 rfl (lv_at hl 0 rfl) ?_
    refine lv_iload_n hx hb d_R_faceBy_33 rfl (lv_at hl 2 rfl) ?_
    refine lv_iconst (v := 1) hx hb d_R_faceBy_34 (by decide) ?_
    refine lv_icmp_ne (tgt := 42) hx hb d_R_faceBy_35 (by decide) (fun c7 => ?_) (fun c7 => ?_)
    · have c7a : ¬ (wh = 1) := c7
      refine lv_iload_n hx hb d_R_faceBy_42 rfl (lv_at hl 3 rfl) ?_
      refine lv_iconst (v := 1) hx hb d_R_faceBy_43 (by decide) ?_
      refine lv_iadd hx hb d_R_faceBy_44 ?_
      refine rtop (y := nI ((fl_R_faceBy_1 aX ln k (lns - 1) 0) + 1)) (nI_add (fl_R_faceBy_1 aX ln k (lns - 1) 0) (1)) ?_
      refine lv_aload_n hx hb d_R_faceBy_45 rfl (lv_at hl 0 rfl) ?_
      refine rget S hK hP 0 rfl rfl in_R 1 (by decide) kF_R_13 rfl d_R_faceBy_46 ?_
      refine lv_iload_n hx hb d_R_faceBy_49 rfl (lv_at hl 1 rfl) ?_
      refine riald (j := k) S hK hP 2 1 rfl rfl (by omega) (by first | decide | omega) d_R_faceBy_50 ?_
      refine lv_aload_n hx hb d_R_faceBy_51 rfl (lv_at hl 0 rfl) ?_
      refine rget S hK hP 0 rfl rfl in_R 2 (by decide) kF_R_17 rfl d_R_faceBy_52 ?_
      refine lv_iload_n hx hb d_R_faceBy_55 rfl (lv_at hl 1 rfl) ?_
      refine riald (j := k) S hK hP 3 1 rfl rfl (by omega) (by first | decide | omega) d_R_faceBy_56 ?_
      refine lv_aload_n hx hb d_R_faceBy_57 rfl (lv_at hl 0 rfl) ?_
      refine rget S hK hP 0 rfl rfl in_R 4 (by decide) kF_R_23 rfl d_R_faceBy_58 ?_
      refine lv_iload_n hx hb d_R_faceBy_61 rfl (lv_at hl 1 rfl) ?_
      refine riald (j := k) S hK hP 5 1 rfl rfl (by omega) (by first | decide | omega) d_R_faceBy_62 ?_
      refine lv_iadd hx hb d_R_faceBy_63 ?_
      refine rcallV (rest := [.ref q0]) (v := (f_R_cellAt u aX aY bX bY ac mn ((fl_R_faceBy_1 aX ln k (lns - 1) 0) + 1) (aX k) (aY k + bY k))) S [.int (nI ((fl_R_faceBy_1 aX ln k (lns - 1) 0) + 1)), .int (aX k), .int ((aY k + bY k))] hK hP [0, 1, 2, 3, 4, 5, 6, 7, 8, 9] rfl [0, 1] rfl (c_R_cellAt l D q0 qu qa qb qc qd qe qf qg qh cZ cI u aX aY bX bY kn lns ln ac mn sm ((fl_R_faceBy_1 aX ln k (lns - 1) 0) + 1) (aX k) (aY k + bY k) (by omega) (by assumption) (by assumption)) i_R_cellAt kL_R_128 ⟨Nat.le_of_ble_eq_true rfl, Nat.le_of_ble_eq_true rfl⟩ (by exact ⟨Nat.zero_le _, Nat.zero_le _⟩) (q0 := 0) (ci := 3) rfl rfl rfl hl.1 rfl (Nat.le_of_ble_eq_true rfl) d_R_faceBy_64 ?_
      obtain ⟨ci, hci, ecn, eci, ecl⟩ := cell_nat (cellAt_ok _ _ _ _ _ _ _ _ _ _) (by first | exact hfb.2.1 ‹_› ‹_› | exact hfb.2.2.1 ‹_› ‹_›) (by omega) (hMn _)
      refine rtop eci ?_
      refine rcallV (rest := []) (v := nI (f_R_face sm ((f_R_cellAt u aX aY bX bY ac mn ((fl_R_faceBy_1 aX ln k (lns - 1) 0) + 1) (aX k) (aY k + bY k)).toNatClampNeg))) S [.int (nI ((f_R_cellAt u aX aY bX bY ac mn ((fl_R_faceBy_1 aX ln k (lns - 1) 0) + 1) (aX k) (aY k + bY k)).toNatClampNeg))] hK hP [0, 1, 2, 3, 4, 5, 6, 7, 8, 9] rfl [0, 1] rfl (c_R_face l D q0 qu qa qb qc qd qe qf qg qh cZ cI u aX aY bX bY kn lns ln ac mn sm ((f_R_cellAt u aX aY bX bY ac mn ((fl_R_faceBy_1 aX ln k (lns - 1) 0) + 1) (aX k) (aY k + bY k)).toNatClampNeg) ecl hSm (by first | exact ends_at hV _ ci (by omega) hci ecn (Nat.le_refl _) | exact ends_at hV _ _ (by omega) (by omega) rfl (Nat.le_refl _))) i_R_face kL_R_122 ⟨Nat.le_of_ble_eq_true rfl, Nat.le_of_ble_eq_true rfl⟩ (by exact ⟨Nat.zero_le _, Nat.zero_le _⟩) (q0 := 0) (ci := 3) rfl rfl rfl hl.1 rfl (Nat.le_of_ble_eq_true rfl) d_R_faceBy_67 ?_
      have hfl := face_lt sm ((f_R_cellAt u aX aY bX bY ac mn ((fl_R_faceBy_1 aX ln k (lns - 1) 0) + 1) (aX k) (aY k + bY k)).toNatClampNeg) (by first | omega | assumption) (by assumption)
      exact rret S hr hlk (v := nI (f_R_face sm ((f_R_cellAt u aX aY bX bY ac mn ((fl_R_faceBy_1 aX ln k (lns - 1) 0) + 1) (aX k) (aY k + bY k)).toNatClampNeg))) (congrArg nI (show f_R_faceBy u aX aY bX bY lns ln ac mn sm k wh = (f_R_face sm ((f_R_cellAt u aX aY bX bY ac mn ((fl_R_faceBy_1 aX ln k (lns - 1) 0) + 1) (aX k) (aY k + bY k)).toNatClampNeg)) from by unfold f_R_faceBy; rw [if_pos c3a, if_neg c7a]).symm) d_R_faceBy_70
    · have c7a : wh = 1 := c7
      refine lv_iload_n hx hb d_R_faceBy_38 rfl (lv_at hl 3 rfl) ?_
      refine lv_goto (tgt := 45) hx hb d_R_faceBy_39 (by decide) ?_
      refine lv_aload_n hx hb d_R_faceBy_45 rfl (lv_at hl 0 rfl) ?_
      refine rget S hK hP 0 rfl rfl in_R 1 (by decide) kF_R_13 rfl d_R_faceBy_46 ?_
      refine lv_iload_n hx hb d_R_faceBy_49 rfl (lv_at hl 1 rfl) ?_
      refine riald (j := k) S hK hP 2 1 rfl rfl (by omega) (by first | decide | omega) d_R_faceBy_50 ?_
      refine lv_aload_n hx hb d_R_faceBy_51 rfl (lv_at hl 0 rfl) ?_
      refine rget S hK hP 0 rfl rfl in_R 2 (by decide) kF_R_17 rfl d_R_faceBy_52 ?_
      refine lv_iload_n hx hb d_R_faceBy_55 rfl (lv_at hl 1 rfl) ?_
      refine riald (j := k) S hK hP 3 1 rfl rfl (by omega) (by first | decide | omega) d_R_faceBy_56 ?_
      refine lv_aload_n hx hb d_R_faceBy_57 rfl (lv_at hl 0 rfl) ?_
      refine rget S hK hP 0 rfl rfl in_R 4 (by decide) kF_R_23 rfl d_R_faceBy_58 ?_
      refine lv_iload_n hx hb d_R_faceBy_61 rfl (lv_at hl 1 rfl) ?_
      refine riald (j := k) S hK hP 5 1 rfl rfl (by omega) (by first | decide | omega) d_R_faceBy_62 ?_
      refine lv_iadd hx hb d_R_faceBy_63 ?_
      refine rcallV (rest := [.ref q0]) (v := (f_R_cellAt u aX aY bX bY ac mn (fl_R_faceBy_1 aX ln k (lns - 1) 0) (aX k) (aY k + bY k))) S [.int (nI (fl_R_faceBy_1 aX ln k (lns - 1) 0)), .int (aX k), .int ((aY k + bY k))] hK hP [0, 1, 2, 3, 4, 5, 6, 7, 8, 9] rfl [0, 1] rfl (c_R_cellAt l D q0 qu qa qb qc qd qe qf qg qh cZ cI u aX aY bX bY kn lns ln ac mn sm (fl_R_faceBy_1 aX ln k (lns - 1) 0) (aX k) (aY k + bY k) (by omega) (by assumption) (by assumption)) i_R_cellAt kL_R_128 ⟨Nat.le_of_ble_eq_true rfl, Nat.le_of_ble_eq_true rfl⟩ (by exact ⟨Nat.zero_le _, Nat.zero_le _⟩) (q0 := 0) (ci := 3) rfl rfl rfl hl.1 rfl (Nat.le_of_ble_eq_true rfl) d_R_faceBy_64 ?_
      obtain ⟨ci, hci, ecn, eci, ecl⟩ := cell_nat (cellAt_ok _ _ _ _ _ _ _ _ _ _) (by first | exact hfb.2.1 ‹_› ‹_› | exact hfb.2.2.1 ‹_› ‹_›) (by omega) (hMn _)
      refine rtop eci ?_
      refine rcallV (rest := []) (v := nI (f_R_face sm ((f_R_cellAt u aX aY bX bY ac mn (fl_R_faceBy_1 aX ln k (lns - 1) 0) (aX k) (aY k + bY k)).toNatClampNeg))) S [.int (nI ((f_R_cellAt u aX aY bX bY ac mn (fl_R_faceBy_1 aX ln k (lns - 1) 0) (aX k) (aY k + bY k)).toNatClampNeg))] hK hP [0, 1, 2, 3, 4, 5, 6, 7, 8, 9] rfl [0, 1] rfl (c_R_face l D q0 qu qa qb qc qd qe qf qg qh cZ cI u aX aY bX bY kn lns ln ac mn sm ((f_R_cellAt u aX aY bX bY ac mn (fl_R_faceBy_1 aX ln k (lns - 1) 0) (aX k) (aY k + bY k)).toNatClampNeg) ecl hSm (by first | exact ends_at hV _ ci (by omega) hci ecn (Nat.le_refl _) | exact ends_at hV _ _ (by omega) (by omega) rfl (Nat.le_refl _))) i_R_face kL_R_122 ⟨Nat.le_of_ble_eq_true rfl, Nat.le_of_ble_eq_true rfl⟩ (by exact ⟨Nat.zero_le _, Nat.zero_le _⟩) (q0 := 0) (ci := 3) rfl rfl rfl hl.1 rfl (Nat.le_of_ble_eq_true rfl) d_R_faceBy_67 ?_
      have hfl := face_lt sm ((f_R_cellAt u aX aY bX bY ac mn (fl_R_faceBy_1 aX ln k (lns - 1) 0) (aX k) (aY k + bY k)).toNatClampNeg) (by first | omega | assumption) (by assumption)
      exact rret S hr hlk (v := nI (f_R_face sm ((f_R_cellAt u aX aY bX bY ac mn (fl_R_faceBy_1 aX ln k (lns - 1) 0) (aX k) (aY k + bY k)).toNatClampNeg))) (congrArg nI (show f_R_faceBy u aX aY bX bY lns ln ac mn sm k wh = (f_R_face sm ((f_R_cellAt u aX aY bX bY ac mn (fl_R_faceBy_1 aX ln k (lns - 1) 0) (aX k) (aY k + bY k)).toNatClampNeg)) from by unfold f_R_faceBy; rw [if_pos c3a, if_pos c7a]).symm) d_R_faceBy_70
def f_R_sides (u : Nat → Bool) (aX : Nat → Int32) (aY : Nat → Int32) (bX : Nat → Int32) (bY : Nat → Int32) (lns : Nat) (ln : Nat → Int32) (ac : Nat → Nat) (mn : Nat → Nat) (sm : Nat → Nat) (k : Nat) (f : Int32) : Nat := if nI (f_R_faceBy u aX aY bX bY lns ln ac mn sm k 1) = f then (if nI (f_R_faceBy u aX aY bX bY lns ln ac mn sm k 2) = f then 3 else 1) else (if nI (f_R_faceBy u aX aY bX bY lns ln ac mn sm k 2) = f then 2 else 0)
theorem i_R_sides : inV y_R_sides b_R_sides 3 (some .int) 2 := ⟨kM_y_R_sides, kV_y_R_sides, kI_R, kY_y_R_sides, by decide +kernel⟩
set_option maxHeartbeats 4000000 in
set_option maxRecDepth 100000 in
theorem c_R_sides (l : Launch) (D : va_G) (q0 qu qa qb qc qd qe qf qg qh : Nat) (cZ cI : ClassId) (u : Nat → Bool) (aX aY bX bY : Nat → Int32) (kn : Bool) (lns : Nat) (ln : Nat → Int32) (ac mn sm : Nat → Nat) (k : Nat) (f : Int32) (hk : k < 20) (hRI : RInv lns ac mn sm) (hb1 : FBok u aX aY bX bY lns ln ac mn k 1) (hb2 : FBok u aX aY bX bY lns ln ac mn k 2) : PM l y_R_sides b_R_sides 3 (some .int) 4 95 D (refW q0 qu qa qb qc qd qe qf qg qh cZ cI u aX aY bX bY kn lns ln ac mn sm) [(cZ, .boolean), (cI, .int)] [.ref q0, .int (nI (k)), .int f] (nI (f_R_sides u aX aY bX bY lns ln ac mn sm k f)) := by
  refine pMet rfl (fun p e s m below meth c S hr hlk hP hK ls hl => ?_) (Nat.le_of_ble_eq_true rfl)
  have hx := S.1
  have hb := S.2.1
  have hl : lv_has ls 3 [(0, .ref q0), (1, .int (nI (k))), (2, .int f)] := hl
  refine lv_aload_n hx hb d_R_sides_0 rfl (lv_at hl 0 rfl) ?_
  refine lv_iload_n hx hb d_R_sides_1 rfl (lv_at hl 1 rfl) ?_
  refine lv_iconst (v := 1) hx hb d_R_sides_2 (by decide) ?_
  refine rcallV (rest := []) (v := nI (f_R_faceBy u aX aY bX bY lns ln ac mn sm k 1)) S [.int (nI (k)), .int 1] hK hP [0, 1, 2, 3, 4, 5, 6, 7, 8, 9] rfl [0, 1] rfl (c_R_faceBy l D q0 qu qa qb qc qd qe qf qg qh cZ cI u aX aY bX bY kn lns ln ac mn sm k 1 (by omega) hRI hb1) i_R_faceBy kL_R_143 ⟨Nat.le_of_ble_eq_true rfl, Nat.le_of_ble_eq_true rfl⟩ (by exact ⟨Nat.zero_le _, Nat.zero_le _⟩) (q0 := 0) (ci := 3) rfl rfl rfl hl.1 rfl (Nat.le_of_ble_eq_true rfl) d_R_sides_3 ?_
  refine lv_iload_n hx hb d_R_sides_6 rfl (lv_at hl 2 rfl) ?_
  refine lv_icmp_ne (tgt := 14) hx hb d_R_sides_7 (by decide) (fun c1 => ?_) (fun c1 => ?_)
  · have c1a : ¬ (nI (f_R_faceBy u aX aY bX bY lns ln ac mn sm k 1) = f) := c1
    refine lv_iconst (v := 0) hx hb d_R_sides_14 (by decide) ?_
    refine lv_aload_n hx hb d_R_sides_15 rfl (lv_at hl 0 rfl) ?_
    refine lv_iload_n hx hb d_R_sides_16 rfl (lv_at hl 1 rfl) ?_
    refine lv_iconst (v := 2) hx hb d_R_sides_17 (by decide) ?_
    refine rcallV (rest := [.int 0]) (v := nI (f_R_faceBy u aX aY bX bY lns ln ac mn sm k 2)) S [.int (nI (k)), .int 2] hK hP [0, 1, 2, 3, 4, 5, 6, 7, 8, 9] rfl [0, 1] rfl (c_R_faceBy l D q0 qu qa qb qc qd qe qf qg qh cZ cI u aX aY bX bY kn lns ln ac mn sm k 2 (by omega) hRI hb2) i_R_faceBy kL_R_143 ⟨Nat.le_of_ble_eq_true rfl, Nat.le_of_ble_eq_true rfl⟩ (by exact ⟨Nat.zero_le _, Nat.zero_le _⟩) (q0 := 0) (ci := 3) rfl rfl rfl hl.1 rfl (Nat.le_of_ble_eq_true rfl) d_R_sides_18 ?_
    refine lv_iload_n hx hb d_R_sides_21 rfl (lv_at hl 2 rfl) ?_
    refine lv_icmp_ne (tgt := 29) hx hb d_R_sides_22 (by decide) (fun c2 => ?_) (fun c2 => ?_)
    · have c2a : ¬ (nI (f_R_faceBy u aX aY bX bY lns ln ac mn sm k 2) = f) := c2
      refine lv_iconst (v := 0) hx hb d_R_sides_29 (by decide) ?_
      refine lv_iadd hx hb d_R_sides_30 ?_
      refine rtop (y := 0) (by decide) ?_
      exact rret S hr hlk (v := nI (0)) (congrArg nI (show f_R_sides u aX aY bX bY lns ln ac mn sm k f = 0 from by unfold f_R_sides; rw [if_neg c1a, if_neg c2a]).symm) d_R_sides_31
    · have c2a : nI (f_R_faceBy u aX aY bX bY lns ln ac mn sm k 2) = f := c2
      refine lv_iconst (v := 2) hx hb d_R_sides_25 (by decide) ?_
      refine lv_goto (tgt := 30) hx hb d_R_sides_26 (by decide) ?_
      refine lv_iadd hx hb d_R_sides_30 ?_
      refine rtop (y := 2) (by decide) ?_
      exact rret S hr hlk (v := nI (2)) (congrArg nI (show f_R_sides u aX aY bX bY lns ln ac mn sm k f = 2 from by unfold f_R_sides; rw [if_neg c1a, if_pos c2a]).symm) d_R_sides_31
  · have c1a : nI (f_R_faceBy u aX aY bX bY lns ln ac mn sm k 1) = f := c1
    refine lv_iconst (v := 1) hx hb d_R_sides_10 (by decide) ?_
    refine lv_goto (tgt := 15) hx hb d_R_sides_11 (by decide) ?_
    refine lv_aload_n hx hb d_R_sides_15 rfl (lv_at hl 0 rfl) ?_
    refine lv_iload_n hx hb d_R_sides_16 rfl (lv_at hl 1 rfl) ?_
    refine lv_iconst (v := 2) hx hb d_R_sides_17 (by decide) ?_
    refine rcallV (rest := [.int 1]) (v := nI (f_R_faceBy u aX aY bX bY lns ln ac mn sm k 2)) S [.int (nI (k)), .int 2] hK hP [0, 1, 2, 3, 4, 5, 6, 7, 8, 9] rfl [0, 1] rfl (c_R_faceBy l D q0 qu qa qb qc qd qe qf qg qh cZ cI u aX aY bX bY kn lns ln ac mn sm k 2 (by omega) hRI hb2) i_R_faceBy kL_R_143 ⟨Nat.le_of_ble_eq_true rfl, Nat.le_of_ble_eq_true rfl⟩ (by exact ⟨Nat.zero_le _, Nat.zero_le _⟩) (q0 := 0) (ci := 3) rfl rfl rfl hl.1 rfl (Nat.le_of_ble_eq_true rfl) d_R_sides_18 ?_
    refine lv_iload_n hx hb d_R_sides_21 rfl (lv_at hl 2 rfl) ?_
    refine lv_icmp_ne (tgt := 29) hx hb d_R_sides_22 (by decide) (fun c3 => ?_) (fun c3 => ?_)
    · have c3a : ¬ (nI (f_R_faceBy u aX aY bX bY lns ln ac mn sm k 2) = f) := c3
      refine lv_iconst (v := 0) hx hb d_R_sides_29 (by decide) ?_
      refine lv_iadd hx hb d_R_sides_30 ?_
      refine rtop (y := 1) (by decide) ?_
      exact rret S hr hlk (v := nI (1)) (congrArg nI (show f_R_sides u aX aY bX bY lns ln ac mn sm k f = 1 from by unfold f_R_sides; rw [if_pos c1a, if_neg c3a]).symm) d_R_sides_31
    · have c3a : nI (f_R_faceBy u aX aY bX bY lns ln ac mn sm k 2) = f := c3
      refine lv_iconst (v := 2) hx hb d_R_sides_25 (by decide) ?_
      refine lv_goto (tgt := 30) hx hb d_R_sides_26 (by decide) ?_
      refine lv_iadd hx hb d_R_sides_30 ?_
      refine rtop (y := 3) (by decide) ?_
      exact rret S hr hlk (v := nI (3)) (congrArg nI (show f_R_sides u aX aY bX bY lns ln ac mn sm k f = 3 from by unfold f_R_sides; rw [if_pos c1a, if_pos c3a]).symm) d_R_sides_31
theorem sides_le (u : Nat → Bool) (aX aY bX bY : Nat → Int32) (lns : Nat) (ln : Nat → Int32) (ac mn sm : Nat → Nat) (k : Nat) (f : Int32) : f_R_sides u aX aY bX bY lns ln ac mn sm k f ≤ 3 := by
  unfold f_R_sides
  repeat' split
  all_goals omega
theorem look_look (u : Nat → Bool) (aX aY bX bY : Nat → Int32) (kn : Bool) (lns : Nat) (ln : Nat → Int32) (ac mn sm : Nat → Nat) : f_R_look u aX aY bX bY (f_R_look u aX aY bX bY kn lns ln ac mn sm).1 (f_R_look u aX aY bX bY kn lns ln ac mn sm).2.1 (f_R_look u aX aY bX bY kn lns ln ac mn sm).2.2.1 (f_R_look u aX aY bX bY kn lns ln ac mn sm).2.2.2.1 (f_R_look u aX aY bX bY kn lns ln ac mn sm).2.2.2.2.1 (f_R_look u aX aY bX bY kn lns ln ac mn sm).2.2.2.2.2 = (f_R_look u aX aY bX bY kn lns ln ac mn sm) := by
  show (if (f_R_look u aX aY bX bY kn lns ln ac mn sm).1 = true then ((f_R_look u aX aY bX bY kn lns ln ac mn sm).1, (f_R_look u aX aY bX bY kn lns ln ac mn sm).2.1, (f_R_look u aX aY bX bY kn lns ln ac mn sm).2.2.1, (f_R_look u aX aY bX bY kn lns ln ac mn sm).2.2.2.1, (f_R_look u aX aY bX bY kn lns ln ac mn sm).2.2.2.2.1, (f_R_look u aX aY bX bY kn lns ln ac mn sm).2.2.2.2.2) else _) = (f_R_look u aX aY bX bY kn lns ln ac mn sm)
  rw [if_pos (look_kn u aX aY bX bY kn lns ln ac mn sm)]
theorem rpre_look (u : Nat → Bool) (aX aY bX bY : Nat → Int32) (kn : Bool) (lns : Nat) (ln : Nat → Int32) (ac mn sm : Nat → Nat) (h : RPre kn lns ac mn sm) : RPre (f_R_look u aX aY bX bY kn lns ln ac mn sm).1 (f_R_look u aX aY bX bY kn lns ln ac mn sm).2.1 (f_R_look u aX aY bX bY kn lns ln ac mn sm).2.2.2.1 (f_R_look u aX aY bX bY kn lns ln ac mn sm).2.2.2.2.1 (f_R_look u aX aY bX bY kn lns ln ac mn sm).2.2.2.2.2 := by
  have q := look_inv u aX aY bX bY kn lns ln ac mn sm h
  exact ⟨q.2.1, q.2.2.1, q.2.2.2.1, fun _ => q⟩
theorem faceAtCell_look (u : Nat → Bool) (aX aY bX bY : Nat → Int32) (kn : Bool) (lns : Nat) (ln : Nat → Int32) (ac mn sm : Nat → Nat) (x y : Int32) : faceAtCell u aX aY bX bY (f_R_look u aX aY bX bY kn lns ln ac mn sm).1 (f_R_look u aX aY bX bY kn lns ln ac mn sm).2.1 (f_R_look u aX aY bX bY kn lns ln ac mn sm).2.2.1 (f_R_look u aX aY bX bY kn lns ln ac mn sm).2.2.2.1 (f_R_look u aX aY bX bY kn lns ln ac mn sm).2.2.2.2.1 (f_R_look u aX aY bX bY kn lns ln ac mn sm).2.2.2.2.2 x y = faceAtCell u aX aY bX bY kn lns ln ac mn sm x y := by
  unfold faceAtCell
  rw [look_look]
theorem ref_free {u : Nat → Bool} {aX aY bX bY : Nat → Int32} {kn : Bool} {lns : Nat} {ln : Nat → Int32} {ac mn sm : Nat → Nat} {x y : Int32} (hF : ∀ x y, f_R_near x = true → f_R_near y = true → f_R_isFree u aX aY bX bY x y = true → ¬ faceAtCell u aX aY bX bY kn lns ln ac mn sm x y = -1) (h : 0 ≤ f_R_refusal u aX aY bX bY x y) : ¬ faceAtCell u aX aY bX bY kn lns ln ac mn sm x y = -1 := by
  unfold f_R_refusal at h
  by_cases h1 : f_R_near x = true
  · rw [if_pos h1] at h
    by_cases h2 : f_R_near y = true
    · rw [if_pos h2] at h
      by_cases h3 : f_R_isFree u aX aY bX bY x y = true
      · exact hF x y h1 h2 h3
      · rw [if_neg h3] at h; exact absurd h (by decide)
    · rw [if_neg h2] at h; exact absurd h (by decide)
  · rw [if_neg h1] at h; exact absurd h (by decide)
