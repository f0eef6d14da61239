theorem law_go {L i : Nat} (hL : L ≤ 2560) (hi : i ≤ L) (h : ¬ nI L - 5 < nI i) : i + 5 ≤ L := by
  rw [Int32.lt_iff_toInt_lt, show nI L - 5 = nI L - nI 5 from rfl, pk_sub_toInt (by omega) (by omega), nI_toInt (by omega)] at h
  omega
theorem and15 (x : Int32) : ∃ j : Nat, j < 16 ∧ x &&& 15 = nI j := pk_andE x 4 (by decide)
set_option maxHeartbeats 4000000 in
set_option maxRecDepth 100000 in
theorem law_loop (Sim : AS → RS → Prop) (hO : Obl Sim) {p : Program} {l : Launch} {e : Env} {s : State} {m : MethodId} {below : List Frame} {meth : Method} {c : Code} {D : va_G} {b L : Nat} {xs : Nat → Int32} (hL : L ≤ 2560) (C0 : lw_At p s m meth c b L xs) (h0 hm hu hxs hys hg1 hl1 hg2 hl2 q0 qu qa qb qc qd qe qf qg qh : Nat) (cZ cI : ClassId) (hK : va_K D CLS [(cZ, .boolean), (cI, .int)] s) : ∀ (n i : Nat), i ≤ L → L + 5 ≤ i + 5 * n → ∀ (u : Nat → Bool) (X : Nat → Int32) (Y : Nat → Int32) (L1 : Nat → Nat) (L2 : Nat → Nat) (v : Nat → Bool) (aX : Nat → Int32) (aY : Nat → Int32) (bX : Nat → Int32) (bY : Nat → Int32) (kn : Bool) (lns : Nat) (ln : Nat → Int32) (ac : Nat → Nat) (mn : Nat → Nat) (sm : Nat → Nat) (hsim : Sim (u, X, Y, L1, L2) (v, aX, aY, bX, bY, kn, lns, ln, ac, mn, sm)) (H : Heap) (locs : List Loc) (hP : va_P D CLS [(h0, .inr (2, [.ref hm, .ref hg1, .ref hg2])), (hm, .inr (1, [.ref hu, .ref hxs, .ref hys])), (hu, .inl (cZ, 20, .inl (fun z9 => b2i (u z9)))), (hxs, .inl (cI, 40, .inl X)), (hys, .inl (cI, 40, .inl Y)), (hg1, .inr (0, [.ref hl1])), (hl1, .inl (cI, 41, .inl (fun z9 => nI (L1 z9)))), (hg2, .inr (0, [.ref hl2])), (hl2, .inl (cI, 20, .inl (fun z9 => nI (L2 z9)))), (q0, .inr (3, [.ref qu, .ref qa, .ref qb, .ref qc, .ref qd, .int (b2i (kn)), .int (nI (lns)), .ref qe, .ref qf, .ref qg, .ref qh])), (qu, .inl (cZ, 20, .inl (fun z9 => b2i (v z9)))), (qa, .inl (cI, 20, .inl aX)), (qb, .inl (cI, 20, .inl aY)), (qc, .inl (cI, 20, .inl bX)), (qd, .inl (cI, 20, .inl bY)), (qe, .inl (cI, 40, .inl ln)), (qf, .inl (cI, 820, .inl (fun z9 => nI (ac z9)))), (qg, .inl (cI, 41, .inl (fun z9 => nI (mn z9)))), (qh, .inl (cI, 861, .inl (fun z9 => nI (sm z9))))] H) (hD : va_D (fun q : Nat => s.heap.size ≤ q) [(h0, .inr (2, [.ref hm, .ref hg1, .ref hg2])), (hm, .inr (1, [.ref hu, .ref hxs, .ref hys])), (hu, .inl (cZ, 20, .inl (fun z9 => b2i (u z9)))), (hxs, .inl (cI, 40, .inl X)), (hys, .inl (cI, 40, .inl Y)), (hg1, .inr (0, [.ref hl1])), (hl1, .inl (cI, 41, .inl (fun z9 => nI (L1 z9)))), (hg2, .inr (0, [.ref hl2])), (hl2, .inl (cI, 20, .inl (fun z9 => nI (L2 z9)))), (q0, .inr (3, [.ref qu, .ref qa, .ref qb, .ref qc, .ref qd, .int (b2i (kn)), .int (nI (lns)), .ref qe, .ref qf, .ref qg, .ref qh])), (qu, .inl (cZ, 20, .inl (fun z9 => b2i (v z9)))), (qa, .inl (cI, 20, .inl aX)), (qb, .inl (cI, 20, .inl aY)), (qc, .inl (cI, 20, .inl bX)), (qd, .inl (cI, 20, .inl bY)), (qe, .inl (cI, 40, .inl ln)), (qf, .inl (cI, 820, .inl (fun z9 => nI (ac z9)))), (qg, .inl (cI, 41, .inl (fun z9 => nI (mn z9)))), (qh, .inl (cI, 861, .inl (fun z9 => nI (sm z9))))]) (hS : va_S (fun q : Nat => s.heap.size ≤ q) s.heap H locs) (ls : Array Slot) (hl : lv_has ls 4 [(0, .ref b), (1, .ref h0), (2, .ref q0), (3, .int (nI i))]), W p l e room_1 s m #[Value.ref b] below meth c H locs 19 2042 (lw_Z below #[Value.ref b] s) (F0 m 18 ls []) := by
  obtain ⟨hx, hb, hr, hml, hown, hts, hX, hbl, hlocks, hgv⟩ := id C0
  have S : CallFix p m c code 4 s #[Value.ref b] TBL R_L := ⟨hx, hb, hml, hown, fun w h => hts w (tbl_out h)⟩
  have hA : ∀ q : Nat, s.heap.size ≤ q → (fun q : Nat => s.heap.size ≤ q) q := fun _ h => h
  have hbA : ¬ (fun q : Nat => s.heap.size ≤ q) b := Nat.not_le.mpr hbl
  intro n
  induction n with
  | zero => intro i hi hn; omega
  | succ n ih =>
    intro i hi hn u X Y L1 L2 v aX aY bX bY kn lns ln ac mn sm hsim H locs hP hD hS ls hl
    refine lv_iload_n hx hb d_L_law_18 rfl (lv_at hl 3 rfl) ?_
    refine lv_aload_n hx hb d_L_law_19 rfl (lv_at hl 0 rfl) ?_
    refine va_slen hx hb hX hbl hbA hS d_L_law_20 ?_
    refine lv_iconst (v := 5) hx hb d_L_law_21 (by decide) ?_
    refine lv_isub hx hb d_L_law_22 ?_
    refine lv_icmp_gt (tgt := 421) hx hb d_L_law_23 (by decide) (fun c1 => ?_) (fun c1 => ?_)
    · refine lv_iconst (v := 1) hx hb d_L_law_421 (by decide) ?_
      refine va_forget (fun q hq => hS.2.2 q hq) ?_
      refine W.widen (k := 600000) (n := 7302250) (by omega) (by omega) ?_
      exact lw_ret hx hb hr hlocks d_L_law_422
    · have hgo : i + 5 ≤ L := law_go hL hi c1
      refine lv_aload_n hx hb d_L_law_26 rfl (lv_at hl 0 rfl) ?_
      refine lv_iload_n hx hb d_L_law_27 rfl (lv_at hl 3 rfl) ?_
      refine va_sld hx hb hX hbl hbA hS (vp_in_nI (n := i) (by omega) (by omega)) d_L_law_28 ?_
      refine lv_bipush (v := 15) hx hb d_L_law_29 (by decide) ?_
      refine lv_iand hx hb d_L_law_31 ?_
      obtain ⟨j, hj, ej⟩ := and15 (xs (nI i).toNatClampNeg)
      refine rtop ej ?_
      have hjT : (nI j).toInt = (j : Int) := nI_toInt (by omega)
      rcases (show j = 0 ∨ j = 1 ∨ j = 2 ∨ j = 3 ∨ j = 4 ∨ j = 5 ∨ j = 6 ∨ j = 7 ∨ j = 8 ∨ j = 9 ∨ j = 10 ∨ 11 ≤ j by omega) with rfl | rfl | rfl | rfl | rfl | rfl | rfl | rfl | rfl | rfl | rfl | hj2
      · refine lv_tableIn (tgt := 92) hx hb d_L_law_32 (by rw [hjT]; decide) (by rw [hjT]; decide) (by rw [hjT]; rfl) (by decide) ?_
        exact law_add Sim hO hL C0 h0 hm hu hxs hys hg1 hl1 hg2 hl2 q0 qu qa qb qc qd qe qf qg qh cZ cI hK i n hgo hn ih u X Y L1 L2 v aX aY bX bY kn lns ln ac mn sm hsim H locs hP hD hS ls hl
      · refine lv_tableIn (tgt := 145) hx hb d_L_law_32 (by rw [hjT]; decide) (by rw [hjT]; decide) (by rw [hjT]; rfl) (by decide) ?_
        exact law_remove Sim hO hL C0 h0 hm hu hxs hys hg1 hl1 hg2 hl2 q0 qu qa qb qc qd qe qf qg qh cZ cI hK i n hgo hn ih u X Y L1 L2 v aX aY bX bY kn lns ln ac mn sm hsim H locs hP hD hS ls hl
      · refine lv_tableIn (tgt := 168) hx hb d_L_law_32 (by rw [hjT]; decide) (by rw [hjT]; decide) (by rw [hjT]; rfl) (by decide) ?_
        exact law_segments Sim hO hL C0 h0 hm hu hxs hys hg1 hl1 hg2 hl2 q0 qu qa qb qc qd qe qf qg qh cZ cI hK i n hgo hn ih u X Y L1 L2 v aX aY bX bY kn lns ln ac mn sm hsim H locs hP hD hS ls hl
      · refine lv_tableIn (tgt := 181) hx hb d_L_law_32 (by rw [hjT]; decide) (by rw [hjT]; decide) (by rw [hjT]; rfl) (by decide) ?_
        exact law_vertices Sim hO hL C0 h0 hm hu hxs hys hg1 hl1 hg2 hl2 q0 qu qa qb qc qd qe qf qg qh cZ cI hK i n hgo hn ih u X Y L1 L2 v aX aY bX bY kn lns ln ac mn sm hsim H locs hP hD hS ls hl
      · refine lv_tableIn (tgt := 194) hx hb d_L_law_32 (by rw [hjT]; decide) (by rw [hjT]; decide) (by rw [hjT]; rfl) (by decide) ?_
        exact law_parts Sim hO hL C0 h0 hm hu hxs hys hg1 hl1 hg2 hl2 q0 qu qa qb qc qd qe qf qg qh cZ cI hK i n hgo hn ih u X Y L1 L2 v aX aY bX bY kn lns ln ac mn sm hsim H locs hP hD hS ls hl
      · refine lv_tableIn (tgt := 207) hx hb d_L_law_32 (by rw [hjT]; decide) (by rw [hjT]; decide) (by rw [hjT]; rfl) (by decide) ?_
        exact law_faces Sim hO hL C0 h0 hm hu hxs hys hg1 hl1 hg2 hl2 q0 qu qa qb qc qd qe qf qg qh cZ cI hK i n hgo hn ih u X Y L1 L2 v aX aY bX bY kn lns ln ac mn sm hsim H locs hP hD hS ls hl
      · refine lv_tableIn (tgt := 220) hx hb d_L_law_32 (by rw [hjT]; decide) (by rw [hjT]; decide) (by rw [hjT]; rfl) (by decide) ?_
        exact law_find Sim hO hL C0 h0 hm hu hxs hys hg1 hl1 hg2 hl2 q0 qu qa qb qc qd qe qf qg qh cZ cI hK i n hgo hn ih u X Y L1 L2 v aX aY bX bY kn lns ln ac mn sm hsim H locs hP hD hS ls hl
      · refine lv_tableIn (tgt := 253) hx hb d_L_law_32 (by rw [hjT]; decide) (by rw [hjT]; decide) (by rw [hjT]; rfl) (by decide) ?_
        exact law_same Sim hO hL C0 h0 hm hu hxs hys hg1 hl1 hg2 hl2 q0 qu qa qb qc qd qe qf qg qh cZ cI hK i n hgo hn ih u X Y L1 L2 v aX aY bX bY kn lns ln ac mn sm hsim H locs hP hD hS ls hl
      · refine lv_tableIn (tgt := 306) hx hb d_L_law_32 (by rw [hjT]; decide) (by rw [hjT]; decide) (by rw [hjT]; rfl) (by decide) ?_
        exact law_area Sim hO hL C0 h0 hm hu hxs hys hg1 hl1 hg2 hl2 q0 qu qa qb qc qd qe qf qg qh cZ cI hK i n hgo hn ih u X Y L1 L2 v aX aY bX bY kn lns ln ac mn sm hsim H locs hP hD hS ls hl
      · refine lv_tableIn (tgt := 339) hx hb d_L_law_32 (by rw [hjT]; decide) (by rw [hjT]; decide) (by rw [hjT]; rfl) (by decide) ?_
        exact law_border Sim hO hL C0 h0 hm hu hxs hys hg1 hl1 hg2 hl2 q0 qu qa qb qc qd qe qf qg qh cZ cI hK i n hgo hn ih u X Y L1 L2 v aX aY bX bY kn lns ln ac mn sm hsim H locs hP hD hS ls hl
      · refine lv_tableIn (tgt := 372) hx hb d_L_law_32 (by rw [hjT]; decide) (by rw [hjT]; decide) (by rw [hjT]; rfl) (by decide) ?_
        exact law_touches Sim hO hL C0 h0 hm hu hxs hys hg1 hl1 hg2 hl2 q0 qu qa qb qc qd qe qf qg qh cZ cI hK i n hgo hn ih u X Y L1 L2 v aX aY bX bY kn lns ln ac mn sm hsim H locs hP hD hS ls hl
      · refine lv_tableOut (tgt := 415) hx hb d_L_law_32 (Or.inr (by rw [hjT]; omega)) (by decide) ?_
        refine lv_iinc (v := nI (i + 5)) (lv' := [(3, .int (nI (i + 5))), (0, .ref b), (1, .ref h0), (2, .ref q0)]) hx hb d_L_law_415 hl (k := 3) rfl (nI_add i 5) (by decide) rfl (fun ls hl => ?_)
        refine lv_goto (tgt := 18) hx hb d_L_law_418 (by decide) ?_
        exact ih (i + 5) (by omega) (by omega) u X Y L1 L2 v aX aY bX bY kn lns ln ac mn sm hsim _ _ hP hD hS ls (lv_sub hl [1, 2, 3, 0] rfl)
set_option maxHeartbeats 4000000 in
set_option maxRecDepth 100000 in
theorem whole_start_open (Sim : AS → RS → Prop) (hO : Obl Sim) {p : Program} {e : Env} {s : State} {m : MethodId} {below : List Frame} {meth : Method} {c : Code} (l : Launch) {b L : Nat} {xs : Nat → Int32} (hL : L ≤ 2560) (C0 : lw_At p s m meth c b L xs) : W p l e room_1 s m #[Value.ref b] below meth c s.heap [] 0 0 (lw_Z below #[Value.ref b] s) (entryFrame m ([Value.ref b] : List Value).toArray 4) := by
  obtain ⟨hx, hb, hr, hml, hown, hts, hX, hbl, hlocks, hgv⟩ := id C0
  have S : CallFix p m c code 4 s #[Value.ref b] TBL R_L := ⟨hx, hb, hml, hown, fun w h => hts w (tbl_out h)⟩
  have hA : ∀ q : Nat, s.heap.size ≤ q → (fun q : Nat => s.heap.size ≤ q) q := fun _ h => h
  have hbA : ¬ (fun q : Nat => s.heap.size ≤ q) b := Nat.not_le.mpr hbl
  obtain ⟨c0, iS0, hKn0⟩ := u_known (C := R_G) (T := F_G) (N := 1) (n := 1) hts in0_G (hts (.instantiable R_G 1) (tbl_out kN_G))
  obtain ⟨c1, iS1, hKn1⟩ := u_known (C := R_M) (T := F_M) (N := 3) (n := 3) hts in0_M (hts (.instantiable R_M 3) (tbl_out kN_M))
  obtain ⟨c2, iS2, hKn2⟩ := u_known (C := R_A) (T := F_A) (N := 3) (n := 3) hts in0_A (hts (.instantiable R_A 3) (tbl_out kN_A))
  obtain ⟨c3, iS3, hKn3⟩ := u_known (C := R_R) (T := F_R) (N := 11) (n := 11) hts in0_R (hts (.instantiable R_R 11) (tbl_out kN_R))
  obtain ⟨D, hKc⟩ : ∃ (D : va_G), ∀ (k : Nat) (q : vw_C), CLS[k]? = some q → u_Kn s q.1 q.2.1 q.2.2 (D.1 k) (D.2 k) := by
    refine ⟨(fun k => if k = 0 then c0 else if k = 1 then c1 else if k = 2 then c2 else c3, fun k => if k = 0 then iS0 else if k = 1 then iS1 else if k = 2 then iS2 else iS3), ?_⟩
    intro k q hq
    match k, hq with
    | 0, hq => cases hq; exact hKn0
    | 1, hq => cases hq; exact hKn1
    | 2, hq => cases hq; exact hKn2
    | 3, hq => cases hq; exact hKn3
    | k + 4, hq => simp [CLS] at hq
  have hS : va_S (fun q : Nat => s.heap.size ≤ q) s.heap s.heap [] := va_S.rf
  have hK : va_K D CLS [] s := ⟨hKc, fun k q h => by simp at h⟩
  have hP : va_P D CLS [] s.heap := fun k q h => by simp at h
  have hD : va_D (fun q : Nat => s.heap.size ≤ q) [] := ⟨fun i j p q h => by simp at h, fun k q h => by simp at h⟩
  have hl := lv_entry ([.ref b]) (n := 4) (Nat.le_of_ble_eq_true rfl)
  rw [lg_entry_eq]
  generalize (lg_sl ([.ref b]) ++ List.replicate (4 - (lg_sl ([.ref b])).length) Slot.unset).toArray = ls at hl ⊢
  have hl : lv_has ls 4 [(0, .ref b)] := hl
  refine va_new (ci := 2) (fs := [.null, .null, .null]) (C := R_A) (T := F_A) (N := 3) hx hb S.2.2.2.2 in_A t_A tok_A S.2.2.2.1 (S.2.2.2.2 _ kC_L_7) (S.2.2.2.2 _ kN_A) (S.2.2.2.2 _ kI_A) hK hP hD hS hA rfl (fun j hj => by rcases (show j = 0 ∨ j = 1 ∨ j = 2 by omega) with rfl | rfl | rfl <;> rfl) (Nat.le_of_ble_eq_true rfl) (Nat.le_of_ble_eq_true rfl) d_L_law_0 (fun h0 H hP hD hS => ?_)
  refine W.widen (k := 1) (n := 3) (by omega) (by omega) ?_
  have hP : va_P D CLS [(h0, .inr (2, [.null, .null, .null]))] H := hP
  have hD : va_D (fun q : Nat => s.heap.size ≤ q) [(h0, .inr (2, [.null, .null, .null]))] := hD
  refine lv_dup hx hb d_L_law_3 rfl ?_
  have hPc := hP.sub (ws' := [(h0, .inr (2, [.null, .null, .null]))]) [0] rfl
  have hDc := hD.sub (ws' := [(h0, .inr (2, [.null, .null, .null]))]) [0] (by decide) rfl
  have hKc2 := hK.sub (tys' := []) [] rfl
  have hFc := va_free (wc := [(h0, .inr (2, [.null, .null, .null]))]) hD hS hA [0] rfl
  refine va_callv (va_runI (As := []) (rest := [.ref h0]) S (c_A_init l D h0 H.size) (cwI 0 S.2.2.2.2 (gdC kY_y_A_init) rfl rfl rfl (S.2.2.2.2 _ kI_A) (S.2.2.2.2 _ kL_L_9) (S.2.2.2.2 _ kM_y_A_init) rfl (by decide +kernel) ⟨Nat.le_of_ble_eq_true rfl, Nat.le_of_ble_eq_true rfl⟩) ⟨cblind (fun _ _ hv h => va_Nw.same rfl hv h), fun U hU hW => ⟨rfl, va_Nw.warmM hW (va_Nw.of rfl (hts _ kLN_A_11)), by rw [hU], by rw [hU]; exact hPc, va_K.moved hW.alike hKc2, hDc.weaken (fun _ _ _ _ => trivial)⟩⟩ rfl rfl hl.1 rfl (lv_room (Nat.le_of_ble_eq_true rfl)) d_L_law_4 ⟨Nat.le_of_ble_eq_true rfl, Nat.le_of_ble_eq_true rfl⟩) hS (fun q _ h => hFc q h) hFc (fun _ t H1 locs ht hvm _ hB hz1 hk1 hS => ?_)
  obtain ⟨hm, hu, hxs, hys, hg1, hl1, hg2, hl2, cZ, cI, hP1, hK1, hD1⟩ := hB
  rw [ht] at hP1
  have hK := va_K.moved hvm.symm hK1
  obtain ⟨hP, hD⟩ := va_join (wr := []) hP hD [0] [] rfl rfl (by decide) (by decide) hk1 hFc hP1 hD1
  generalize H1 = H at hP hS ⊢
  have hP : va_P D CLS [(h0, .inr (2, [.ref hm, .ref hg1, .ref hg2])), (hm, .inr (1, [.ref hu, .ref hxs, .ref hys])), (hu, .inl (cZ, 20, .inl (fun z9 => b2i ((fun _ => false) z9)))), (hxs, .inl (cI, 40, .inl (fun _ => 0))), (hys, .inl (cI, 40, .inl (fun _ => 0))), (hg1, .inr (0, [.ref hl1])), (hl1, .inl (cI, 41, .inl (fun z9 => nI ((f_G_scatter 41 (fun _ => 0)) z9)))), (hg2, .inr (0, [.ref hl2])), (hl2, .inl (cI, 20, .inl (fun z9 => nI ((f_G_scatter 20 (fun _ => 0)) z9))))] H := hP
  have hD : va_D (fun q : Nat => s.heap.size ≤ q) [(h0, .inr (2, [.ref hm, .ref hg1, .ref hg2])), (hm, .inr (1, [.ref hu, .ref hxs, .ref hys])), (hu, .inl (cZ, 20, .inl (fun z9 => b2i ((fun _ => false) z9)))), (hxs, .inl (cI, 40, .inl (fun _ => 0))), (hys, .inl (cI, 40, .inl (fun _ => 0))), (hg1, .inr (0, [.ref hl1])), (hl1, .inl (cI, 41, .inl (fun z9 => nI ((f_G_scatter 41 (fun _ => 0)) z9)))), (hg2, .inr (0, [.ref hl2])), (hl2, .inl (cI, 20, .inl (fun z9 => nI ((f_G_scatter 20 (fun _ => 0)) z9))))] := hD
  refine W.widen (k := 9) (n := 169) (by omega) (by omega) ?_
  refine lv_astore_n (lv' := [(1, .ref h0), (0, .ref b)]) hx hb d_L_law_7 rfl hl (by decide) rfl (fun ls hl => ?_)
  refine va_new (ci := 3) (fs := [.null, .null, .null, .null, .null, .int 0, .int 0, .null, .null, .null, .null]) (C := R_R) (T := F_R) (N := 11) hx hb S.2.2.2.2 in_R t_R tok_R S.2.2.2.1 (S.2.2.2.2 _ kC_L_10) (S.2.2.2.2 _ kN_R) (S.2.2.2.2 _ kI_R) hK hP hD hS hA rfl (fun j hj => by rcases (show j = 0 ∨ j = 1 ∨ j = 2 ∨ j = 3 ∨ j = 4 ∨ j = 5 ∨ j = 6 ∨ j = 7 ∨ j = 8 ∨ j = 9 ∨ j = 10 by omega) with rfl | rfl | rfl | rfl | rfl | rfl | rfl | rfl | rfl | rfl | rfl <;> rfl) (Nat.le_of_ble_eq_true rfl) (Nat.le_of_ble_eq_true rfl) d_L_law_8 (fun q0 H hP hD hS => ?_)
  refine W.widen (k := 10) (n := 180) (by omega) (by omega) ?_
  have hP : va_P D CLS [(h0, .inr (2, [.ref hm, .ref hg1, .ref hg2])), (hm, .inr (1, [.ref hu, .ref hxs, .ref hys])), (hu, .inl (cZ, 20, .inl (fun z9 => b2i ((fun _ => false) z9)))), (hxs, .inl (cI, 40, .inl (fun _ => 0))), (hys, .inl (cI, 40, .inl (fun _ => 0))), (hg1, .inr (0, [.ref hl1])), (hl1, .inl (cI, 41, .inl (fun z9 => nI ((f_G_scatter 41 (fun _ => 0)) z9)))), (hg2, .inr (0, [.ref hl2])), (hl2, .inl (cI, 20, .inl (fun z9 => nI ((f_G_scatter 20 (fun _ => 0)) z9)))), (q0, .inr (3, [.null, .null, .null, .null, .null, .int 0, .int 0, .null, .null, .null, .null]))] H := hP
  have hD : va_D (fun q : Nat => s.heap.size ≤ q) [(h0, .inr (2, [.ref hm, .ref hg1, .ref hg2])), (hm, .inr (1, [.ref hu, .ref hxs, .ref hys])), (hu, .inl (cZ, 20, .inl (fun z9 => b2i ((fun _ => false) z9)))), (hxs, .inl (cI, 40, .inl (fun _ => 0))), (hys, .inl (cI, 40, .inl (fun _ => 0))), (hg1, .inr (0, [.ref hl1])), (hl1, .inl (cI, 41, .inl (fun z9 => nI ((f_G_scatter 41 (fun _ => 0)) z9)))), (hg2, .inr (0, [.ref hl2])), (hl2, .inl (cI, 20, .inl (fun z9 => nI ((f_G_scatter 20 (fun _ => 0)) z9)))), (q0, .inr (3, [.null, .null, .null, .null, .null, .int 0, .int 0, .null, .null, .null, .null]))] := hD
  refine lv_dup hx hb d_L_law_11 rfl ?_
  have hPc := hP.sub (ws' := [(q0, .inr (3, [.null, .null, .null, .null, .null, .int 0, .int 0, .null, .null, .null, .null]))]) [9] rfl
  have hDc := hD.sub (ws' := [(q0, .inr (3, [.null, .null, .null, .null, .null, .int 0, .int 0, .null, .null, .null, .null]))]) [9] (by decide) rfl
  have hKc2 := hK.sub (tys' := []) [] rfl
  have hFc := va_free (wc := [(q0, .inr (3, [.null, .null, .null, .null, .null, .int 0, .int 0, .null, .null, .null, .null]))]) hD hS hA [9] rfl
  refine va_callv (va_runI (As := []) (rest := [.ref q0]) S (c_R_init l D q0 H.size) (cwI 0 S.2.2.2.2 (gdC kY_y_R_init) rfl rfl rfl (S.2.2.2.2 _ kI_R) (S.2.2.2.2 _ kL_L_12) (S.2.2.2.2 _ kM_y_R_init) rfl (by decide +kernel) ⟨Nat.le_of_ble_eq_true rfl, Nat.le_of_ble_eq_true rfl⟩) ⟨cblind (fun _ _ _ h => h), fun U hU hW => ⟨rfl, trivial, by rw [hU], by rw [hU]; exact hPc, va_K.moved hW.alike hKc2, hDc.weaken (fun _ _ _ _ => trivial)⟩⟩ rfl rfl hl.1 rfl (lv_room (Nat.le_of_ble_eq_true rfl)) d_L_law_12 ⟨Nat.le_of_ble_eq_true rfl, Nat.le_of_ble_eq_true rfl⟩) hS (fun q _ h => hFc q h) hFc (fun _ t H1 locs ht hvm _ hB hz1 hk1 hS => ?_)
  obtain ⟨qu, qa, qb, qc, qd, qe, qf, qg, qh, cZ2, cI2, hP1, hK1, hD1⟩ := hB
  rw [ht] at hP1
  have hK1 := va_K.moved hvm.symm hK1
  have hK2 := hK.app hK1
  obtain rfl : cZ = cZ2 := cls_bool hK2 0 2 rfl rfl
  obtain rfl : cI = cI2 := cls_int hK2 1 3 rfl rfl
  obtain ⟨hP, hD⟩ := va_join (wr := [(h0, .inr (2, [.ref hm, .ref hg1, .ref hg2])), (hm, .inr (1, [.ref hu, .ref hxs, .ref hys])), (hu, .inl (cZ, 20, .inl (fun z9 => b2i ((fun _ => false) z9)))), (hxs, .inl (cI, 40, .inl (fun _ => 0))), (hys, .inl (cI, 40, .inl (fun _ => 0))), (hg1, .inr (0, [.ref hl1])), (hl1, .inl (cI, 41, .inl (fun z9 => nI ((f_G_scatter 41 (fun _ => 0)) z9)))), (hg2, .inr (0, [.ref hl2])), (hl2, .inl (cI, 20, .inl (fun z9 => nI ((f_G_scatter 20 (fun _ => 0)) z9))))]) hP hD [9] [0, 1, 2, 3, 4, 5, 6, 7, 8] rfl rfl (by decide) (by decide) hk1 hFc hP1 hD1
  generalize H1 = H at hP hS ⊢
  have hP : va_P D CLS [(h0, .inr (2, [.ref hm, .ref hg1, .ref hg2])), (hm, .inr (1, [.ref hu, .ref hxs, .ref hys])), (hu, .inl (cZ, 20, .inl (fun z9 => b2i ((fun _ => false) z9)))), (hxs, .inl (cI, 40, .inl (fun _ => 0))), (hys, .inl (cI, 40, .inl (fun _ => 0))), (hg1, .inr (0, [.ref hl1])), (hl1, .inl (cI, 41, .inl (fun z9 => nI ((f_G_scatter 41 (fun _ => 0)) z9)))), (hg2, .inr (0, [.ref hl2])), (hl2, .inl (cI, 20, .inl (fun z9 => nI ((f_G_scatter 20 (fun _ => 0)) z9)))), (q0, .inr (3, [.ref qu, .ref qa, .ref qb, .ref qc, .ref qd, .int (b2i (false)), .int (nI (0)), .ref qe, .ref qf, .ref qg, .ref qh])), (qu, .inl (cZ, 20, .inl (fun z9 => b2i ((fun _ => false) z9)))), (qa, .inl (cI, 20, .inl (fun _ => 0))), (qb, .inl (cI, 20, .inl (fun _ => 0))), (qc, .inl (cI, 20, .inl (fun _ => 0))), (qd, .inl (cI, 20, .inl (fun _ => 0))), (qe, .inl (cI, 40, .inl (fun _ => 0))), (qf, .inl (cI, 820, .inl (fun z9 => nI ((fun _ => 0) z9)))), (qg, .inl (cI, 41, .inl (fun z9 => nI ((fun _ => 0) z9)))), (qh, .inl (cI, 861, .inl (fun z9 => nI ((fun _ => 0) z9))))] H := hP
  have hD : va_D (fun q : Nat => s.heap.size ≤ q) [(h0, .inr (2, [.ref hm, .ref hg1, .ref hg2])), (hm, .inr (1, [.ref hu, .ref hxs, .ref hys])), (hu, .inl (cZ, 20, .inl (fun z9 => b2i ((fun _ => false) z9)))), (hxs, .inl (cI, 40, .inl (fun _ => 0))), (hys, .inl (cI, 40, .inl (fun _ => 0))), (hg1, .inr (0, [.ref hl1])), (hl1, .inl (cI, 41, .inl (fun z9 => nI ((f_G_scatter 41 (fun _ => 0)) z9)))), (hg2, .inr (0, [.ref hl2])), (hl2, .inl (cI, 20, .inl (fun z9 => nI ((f_G_scatter 20 (fun _ => 0)) z9)))), (q0, .inr (3, [.ref qu, .ref qa, .ref qb, .ref qc, .ref qd, .int (b2i (false)), .int (nI (0)), .ref qe, .ref qf, .ref qg, .ref qh])), (qu, .inl (cZ, 20, .inl (fun z9 => b2i ((fun _ => false) z9)))), (qa, .inl (cI, 20, .inl (fun _ => 0))), (qb, .inl (cI, 20, .inl (fun _ => 0))), (qc, .inl (cI, 20, .inl (fun _ => 0))), (qd, .inl (cI, 20, .inl (fun _ => 0))), (qe, .inl (cI, 40, .inl (fun _ => 0))), (qf, .inl (cI, 820, .inl (fun z9 => nI ((fun _ => 0) z9)))), (qg, .inl (cI, 41, .inl (fun z9 => nI ((fun _ => 0) z9)))), (qh, .inl (cI, 861, .inl (fun z9 => nI ((fun _ => 0) z9))))] := hD
  refine W.widen (k := 19) (n := 2042) (by omega) (by omega) ?_
  refine lv_astore_n (lv' := [(2, .ref q0), (1, .ref h0), (0, .ref b)]) hx hb d_L_law_15 rfl hl (by decide) rfl (fun ls hl => ?_)
  refine lv_iconst (v := 0) hx hb d_L_law_16 (by decide) ?_
  refine lv_istore_n (lv' := [(3, .int 0), (2, .ref q0), (1, .ref h0), (0, .ref b)]) hx hb d_L_law_17 rfl hl (by decide) rfl (fun ls hl => ?_)
  exact law_loop Sim hO hL C0 h0 hm hu hxs hys hg1 hl1 hg2 hl2 q0 qu qa qb qc qd qe qf qg qh cZ cI hK (L + 1) 0 (Nat.zero_le _) (by omega) (fun _ => false) (fun _ => 0) (fun _ => 0) (f_G_scatter 41 (fun _ => 0)) (f_G_scatter 20 (fun _ => 0)) (fun _ => false) (fun _ => 0) (fun _ => 0) (fun _ => 0) (fun _ => 0) false 0 (fun _ => 0) (fun _ => 0) (fun _ => 0) (fun _ => 0) hO.1 _ _ hP hD hS ls (lv_sub hl [3, 2, 1, 0] rfl)
