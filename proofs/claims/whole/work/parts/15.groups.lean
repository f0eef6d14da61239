theorem b2i_fits (b : Bool) : fits .boolean (.int (b2i b)) = true := by cases b <;> rfl
def f_G_together (N : Nat) (L : Nat → Nat) (i : Nat) (j : Nat) : Bool := if nI (L i) = nI (L j) then true else false
theorem i_G_together : inV y_G_together b_G_together 3 (some .boolean) 2 := ⟨kM_y_G_together, kV_y_G_together, kI_G, kY_y_G_together, by decide +kernel⟩
set_option maxHeartbeats 4000000 in
set_option maxRecDepth 100000 in
theorem c_G_together (l : Launch) (D : va_G) (hg hl0 : Nat) (cI : ClassId) (N : Nat) (L : Nat → Nat) (i : Nat) (j : Nat) (hi : i < N) (hj : j < N) (hN : N < 2 ^ 31) : PM l y_G_together b_G_together 3 (some .boolean) 0 0 D ([(hg, .inr (0, [.ref hl0])), (hl0, .inl (cI, N, .inl (fun i => nI (L i))))]) [(cI, .int)] [.ref hg, .int (nI (i)), .int (nI (j))] (b2i (f_G_together N L i j)) := by
  refine pMet rfl (fun p e s m below meth c S hr hlk hP hK ls hl => ?_) (Nat.le_of_ble_eq_true rfl)
  have hx := S.1
  have hb := S.2.1
  have hl : lv_has ls 3 [(0, .ref hg), (1, .int (nI (i))), (2, .int (nI (j)))] := hl
  refine lv_aload_n hx hb d_G_together_0 rfl (lv_at hl 0 rfl) ?_
  refine rget S hK hP 0 rfl rfl in_G 0 (by decide) kF_G_7 rfl d_G_together_1 ?_
  refine lv_iload_n hx hb d_G_together_4 rfl (lv_at hl 1 rfl) ?_
  refine rnald (j := i) S hK hP 1 0 rfl rfl (by omega) (by first | decide | omega) d_G_together_5 ?_
  refine lv_aload_n hx hb d_G_together_6 rfl (lv_at hl 0 rfl) ?_
  refine rget S hK hP 0 rfl rfl in_G 0 (by decide) kF_G_7 rfl d_G_together_7 ?_
  refine lv_iload_n hx hb d_G_together_10 rfl (lv_at hl 2 rfl) ?_
  refine rnald (j := j) S hK hP 1 0 rfl rfl (by omega) (by first | decide | omega) d_G_together_11 ?_
  refine lv_icmp_ne (tgt := 19) hx hb d_G_together_12 (by decide) (fun c1 => ?_) (fun c1 => ?_)
  · have c1a : ¬ (nI (L i) = nI (L j)) := c1
    refine lv_iconst (v := 0) hx hb d_G_together_19 (by decide) ?_
    exact rretZ S hr hlk (v := false) (show f_G_together N L i j = false from by unfold f_G_together; rw [if_neg c1a]).symm d_G_together_20
  · have c1a : nI (L i) = nI (L j) := c1
    refine lv_iconst (v := 1) hx hb d_G_together_15 (by decide) ?_
    refine lv_goto (tgt := 20) hx hb d_G_together_16 (by decide) ?_
    exact rretZ S hr hlk (v := true) (show f_G_together N L i j = true from by unfold f_G_together; rw [if_pos c1a]).symm d_G_together_20
def f_G_isLeader (N : Nat) (L : Nat → Nat) (i : Nat) : Bool := if nI (L i) = nI (i) then true else false
theorem i_G_isLeader : inV y_G_isLeader b_G_isLeader 2 (some .boolean) 1 := ⟨kM_y_G_isLeader, kV_y_G_isLeader, kI_G, kY_y_G_isLeader, by decide +kernel⟩
set_option maxHeartbeats 4000000 in
set_option maxRecDepth 100000 in
theorem c_G_isLeader (l : Launch) (D : va_G) (hg hl0 : Nat) (cI : ClassId) (N : Nat) (L : Nat → Nat) (i : Nat) (hi : i < N) (hN : N < 2 ^ 31) : PM l y_G_isLeader b_G_isLeader 2 (some .boolean) 0 0 D ([(hg, .inr (0, [.ref hl0])), (hl0, .inl (cI, N, .inl (fun i => nI (L i))))]) [(cI, .int)] [.ref hg, .int (nI (i))] (b2i (f_G_isLeader N L i)) := by
  refine pMet rfl (fun p e s m below meth c S hr hlk hP hK ls hl => ?_) (Nat.le_of_ble_eq_true rfl)
  have hx := S.1
  have hb := S.2.1
  have hl : lv_has ls 2 [(0, .ref hg), (1, .int (nI (i)))] := hl
  refine lv_aload_n hx hb d_G_isLeader_0 rfl (lv_at hl 0 rfl) ?_
  refine rget S hK hP 0 rfl rfl in_G 0 (by decide) kF_G_7 rfl d_G_isLeader_1 ?_
  refine lv_iload_n hx hb d_G_isLeader_4 rfl (lv_at hl 1 rfl) ?_
  refine rnald (j := i) S hK hP 1 0 rfl rfl (by omega) (by first | decide | omega) d_G_isLeader_5 ?_
  refine lv_iload_n hx hb d_G_isLeader_6 rfl (lv_at hl 1 rfl) ?_
  refine lv_icmp_ne (tgt := 14) hx hb d_G_isLeader_7 (by decide) (fun c1 => ?_) (fun c1 => ?_)
  · have c1a : ¬ (nI (L i) = nI (i)) := c1
    refine lv_iconst (v := 0) hx hb d_G_isLeader_14 (by decide) ?_
    exact rretZ S hr hlk (v := false) (show f_G_isLeader N L i = false from by unfold f_G_isLeader; rw [if_neg c1a]).symm d_G_isLeader_15
  · have c1a : nI (L i) = nI (i) := c1
    refine lv_iconst (v := 1) hx hb d_G_isLeader_10 (by decide) ?_
    refine lv_goto (tgt := 15) hx hb d_G_isLeader_11 (by decide) ?_
    exact rretZ S hr hlk (v := true) (show f_G_isLeader N L i = true from by unfold f_G_isLeader; rw [if_pos c1a]).symm d_G_isLeader_15
def fx_G_scatter (N : Nat) (L : Nat → Nat) (i : Nat)  (Lc : Nat → Nat) : (Nat → Nat) := Lc
def fb_G_scatter (N : Nat) (L : Nat → Nat) (rec : Nat → (Nat → Nat) → (Nat → Nat)) (i : Nat)  (Lc : Nat → Nat) : (Nat → Nat) := rec (i + 1) (updN Lc i i)
def fl_G_scatter (N : Nat) (L : Nat → Nat) : Nat → Nat → (Nat → Nat) → (Nat → Nat)
  | 0, i, Lc => fx_G_scatter N L i Lc
  | n + 1, i, Lc => fb_G_scatter N L (fl_G_scatter N L n) i Lc
def f_G_scatter (N : Nat) (L : Nat → Nat) : (Nat → Nat) := fl_G_scatter N L N 0 L
theorem i_G_scatter : inV y_G_scatter b_G_scatter 2 (none) 0 := ⟨kM_y_G_scatter, kV_y_G_scatter, kI_G, kY_y_G_scatter, by decide +kernel⟩
set_option maxHeartbeats 4000000 in
set_option maxRecDepth 100000 in
theorem c_G_scatter (l : Launch) (D : va_G) (hg hl0 : Nat) (cI : ClassId) (N : Nat) (L : Nat → Nat)  (sz : Nat)  (hN : N < 2 ^ 31) : SMv l y_G_scatter b_G_scatter 2 0 0 D [(hg, .inr (0, [.ref hl0])), (hl0, .inl (cI, N, .inl (fun z9 => nI (L z9))))] [(cI, .int)] [.ref hg] sz [(hg, .inr (0, [.ref hl0])), (hl0, .inl (cI, N, .inl (fun z9 => nI ((f_G_scatter N L) z9))))] := by
  refine sMet (Qc := fun A => sQv D [(hg, .inr (0, [.ref hl0])), (hl0, .inl (cI, N, .inl (fun z9 => nI ((f_G_scatter N L) z9))))] [(cI, .int)] A) rfl (fun p e s m below meth c A S hr hlk hP hK hD hA hS ls hl => ?_) (Nat.le_of_ble_eq_true rfl)
  have hx := S.1
  have hb := S.2.1
  have hl : lv_has ls 2 [(0, .ref hg)] := hl
  have key : ∀ (n : Nat) (i : Nat)  (Lc : Nat → Nat) (hk : i + n = N)  (H : Heap) (locs : List Loc) (hP : va_P D CLS [(hg, .inr (0, [.ref hl0])), (hl0, .inl (cI, N, .inl (fun z9 => nI (Lc z9))))] H) (hD : va_D A [(hg, .inr (0, [.ref hl0])), (hl0, .inl (cI, N, .inl (fun z9 => nI (Lc z9))))]) (hS : va_S A s.heap H locs) (ls : Array Slot) (hl : lv_has ls 2 [(0, .ref hg), (1, .int (nI (i)))]) (hf : f_G_scatter N L = fl_G_scatter N L n i Lc), W p l e { frames := 0, cells := 0, slots := 0, locals := 0 } s m [.ref hg].toArray below meth c H locs 0 0 (MQ below (sQv D [(hg, .inr (0, [.ref hl0])), (hl0, .inl (cI, N, .inl (fun z9 => nI ((f_G_scatter N L) z9))))] [(cI, .int)] A) [.ref hg].toArray s 0 0 A) (F0 m 2 ls []) := by
    clear hP hD hS hl
    intro n
    induction n with
    | zero =>
      intro i Lc hk  H locs hP hD hS ls hl hf
      refine lv_iload_n hx hb d_G_scatter_2 rfl (lv_at hl 1 rfl) ?_
      refine lv_aload_n hx hb d_G_scatter_3 rfl (lv_at hl 0 rfl) ?_
      refine rget S hK hP 0 rfl rfl in_G 0 (by decide) kF_G_7 rfl d_G_scatter_4 ?_
      refine ralen (n := N) S hK hP 1 0 rfl rfl rfl d_G_scatter_7 ?_
      refine lv_icmp_ge (tgt := 24) hx hb d_G_scatter_8 (by decide) (fun c1 => ?_) (fun c1 => ?_)
      · have c1a : N ≤ i := (nI_leI (a := N) (b := i) (by omega) (by omega)).mp c1
        have eqf := (hf.trans (show fx_G_scatter N L i Lc = Lc from rfl))
        exact rretV S hr hlk (by rw [eqf]) hP hK hD hS d_G_scatter_24
      · have c1a : ¬ (N ≤ i) := fun h => c1 ((nI_leI (a := N) (b := i) (by omega) (by omega)).mpr h)
        omega
    | succ n ih =>
      intro i Lc hk  H locs hP hD hS ls hl hf
      refine lv_iload_n hx hb d_G_scatter_2 rfl (lv_at hl 1 rfl) ?_
      refine lv_aload_n hx hb d_G_scatter_3 rfl (lv_at hl 0 rfl) ?_
      refine rget S hK hP 0 rfl rfl in_G 0 (by decide) kF_G_7 rfl d_G_scatter_4 ?_
      refine ralen (n := N) S hK hP 1 0 rfl rfl rfl d_G_scatter_7 ?_
      refine lv_icmp_ge (tgt := 24) hx hb d_G_scatter_8 (by decide) (fun c2 => ?_) (fun c2 => ?_)
      · have c2a : N ≤ i := (nI_leI (a := N) (b := i) (by omega) (by omega)).mp c2
        omega
      · have c2a : ¬ (N ≤ i) := fun h => c2 ((nI_leI (a := N) (b := i) (by omega) (by omega)).mpr h)
        refine lv_aload_n hx hb d_G_scatter_11 rfl (lv_at hl 0 rfl) ?_
        refine rget S hK hP 0 rfl rfl in_G 0 (by decide) kF_G_7 rfl d_G_scatter_12 ?_
        refine lv_iload_n hx hb d_G_scatter_15 rfl (lv_at hl 1 rfl) ?_
        refine lv_iload_n hx hb d_G_scatter_16 rfl (lv_at hl 1 rfl) ?_
        refine rnast (j := i) (x := i) S hK hP hD hS 1 0 rfl rfl (by omega) (by first | decide | omega) d_G_scatter_17 (fun H locs hP hD hS => ?_)
        have hP : va_P D CLS [(hg, .inr (0, [.ref hl0])), (hl0, .inl (cI, N, .inl (fun z9 => nI ((updN Lc i i) z9))))] H := hP
        have hD : va_D A [(hg, .inr (0, [.ref hl0])), (hl0, .inl (cI, N, .inl (fun z9 => nI ((updN Lc i i) z9))))] := hD
        refine lv_iinc (v := nI (i + 1)) (lv' := [(1, .int (nI (i + 1))), (0, .ref hg)]) hx hb d_G_scatter_18 hl (k := 1) rfl (nI_1 (i)) (by decide) rfl (fun ls hl => ?_)
        refine lv_goto (tgt := 2) hx hb d_G_scatter_21 (by decide) ?_
        exact ih (i + 1) (updN Lc i i) (by omega)  _ _ (hP.sub [0, 1] rfl) (hD.sub [0, 1] (by decide) rfl) hS ls (lv_sub hl [1, 0] rfl) (hf.trans (show fb_G_scatter N L (fl_G_scatter N L n) i Lc = (fl_G_scatter N L n (i + 1) (updN Lc i i)) from rfl))
  refine lv_iconst (v := 0) hx hb d_G_scatter_0 (by decide) ?_
  refine lv_istore_n (lv' := [(1, .int 0), (0, .ref hg)]) hx hb d_G_scatter_1 rfl hl (by decide) rfl (fun ls hl => ?_)
  exact key N 0 L (by omega)  _ _ (hP.sub [0, 1] rfl) (hD.sub [0, 1] (by decide) rfl) hS ls (lv_sub hl [1, 0] rfl) (show f_G_scatter N L = (fl_G_scatter N L N 0 L) from rfl)
def fx_G_join (N : Nat) (L : Nat → Nat) (i : Nat) (j : Nat) (q : Nat) (fm : Nat) (tt : Nat) (Lc : Nat → Nat) : (Nat → Nat) := Lc
def fb_G_join (N : Nat) (L : Nat → Nat) (i : Nat) (j : Nat) (rec : Nat → Nat → Nat → (Nat → Nat) → (Nat → Nat)) (q : Nat) (fm : Nat) (tt : Nat) (Lc : Nat → Nat) : (Nat → Nat) := if nI (Lc q) = nI (fm) then (rec (q + 1) fm tt (updN Lc q tt)) else (rec (q + 1) fm tt Lc)
def fl_G_join (N : Nat) (L : Nat → Nat) (i : Nat) (j : Nat) : Nat → Nat → Nat → Nat → (Nat → Nat) → (Nat → Nat)
  | 0, q, fm, tt, Lc => fx_G_join N L i j q fm tt Lc
  | n + 1, q, fm, tt, Lc => fb_G_join N L i j (fl_G_join N L i j n) q fm tt Lc
def f_G_join (N : Nat) (L : Nat → Nat) (i : Nat) (j : Nat) : (Nat → Nat) := if nI (L i) = nI (L j) then L else (fl_G_join N L i j N 0 (L i) (L j) L)
theorem i_G_join : inV y_G_join b_G_join 6 (none) 2 := ⟨kM_y_G_join, kV_y_G_join, kI_G, kY_y_G_join, by decide +kernel⟩
set_option maxHeartbeats 4000000 in
set_option maxRecDepth 100000 in
theorem c_G_join (l : Launch) (D : va_G) (hg hl0 : Nat) (cI : ClassId) (N : Nat) (L : Nat → Nat) (i : Nat) (j : Nat) (sz : Nat) (hi : i < N) (hj : j < N) (hN : N < 2 ^ 31) : SMv l y_G_join b_G_join 6 0 0 D [(hg, .inr (0, [.ref hl0])), (hl0, .inl (cI, N, .inl (fun z9 => nI (L z9))))] [(cI, .int)] [.ref hg, .int (nI (i)), .int (nI (j))] sz [(hg, .inr (0, [.ref hl0])), (hl0, .inl (cI, N, .inl (fun z9 => nI ((f_G_join N L i j) z9))))] := by
  refine sMet (Qc := fun A => sQv D [(hg, .inr (0, [.ref hl0])), (hl0, .inl (cI, N, .inl (fun z9 => nI ((f_G_join N L i j) z9))))] [(cI, .int)] A) rfl (fun p e s m below meth c A S hr hlk hP hK hD hA hS ls hl => ?_) (Nat.le_of_ble_eq_true rfl)
  have hx := S.1
  have hb := S.2.1
  have hl : lv_has ls 6 [(0, .ref hg), (1, .int (nI (i))), (2, .int (nI (j)))] := hl
  have key : ∀ (n : Nat) (q : Nat) (fm : Nat) (tt : Nat) (Lc : Nat → Nat) (hk : q + n = N)  (H : Heap) (locs : List Loc) (hP : va_P D CLS [(hg, .inr (0, [.ref hl0])), (hl0, .inl (cI, N, .inl (fun z9 => nI (Lc z9))))] H) (hD : va_D A [(hg, .inr (0, [.ref hl0])), (hl0, .inl (cI, N, .inl (fun z9 => nI (Lc z9))))]) (hS : va_S A s.heap H locs) (ls : Array Slot) (hl : lv_has ls 6 [(0, .ref hg), (3, .int (nI (fm))), (4, .int (nI (tt))), (5, .int (nI (q)))]) (hf : f_G_join N L i j = fl_G_join N L i j n q fm tt Lc), W p l e { frames := 0, cells := 0, slots := 0, locals := 0 } s m [.ref hg, .int (nI (i)), .int (nI (j))].toArray below meth c H locs 0 0 (MQ below (sQv D [(hg, .inr (0, [.ref hl0])), (hl0, .inl (cI, N, .inl (fun z9 => nI ((f_G_join N L i j) z9))))] [(cI, .int)] A) [.ref hg, .int (nI (i)), .int (nI (j))].toArray s 0 0 A) (F0 m 25 ls []) := by
    clear hP hD hS hl
    intro n
    induction n with
    | zero =>
      intro q fm tt Lc hk  H locs hP hD hS ls hl hf
      refine lv_iload hx hb d_G_join_25 (lv_at hl 3 rfl) ?_
      refine lv_aload_n hx hb d_G_join_27 rfl (lv_at hl 0 rfl) ?_
      refine rget S hK hP 0 rfl rfl in_G 0 (by decide) kF_G_7 rfl d_G_join_28 ?_
      refine ralen (n := N) S hK hP 1 0 rfl rfl rfl d_G_join_31 ?_
      refine lv_icmp_ge (tgt := 61) hx hb d_G_join_32 (by decide) (fun c1 => ?_) (fun c1 => ?_)
      · have c1a : N ≤ q := (nI_leI (a := N) (b := q) (by omega) (by omega)).mp c1
        have eqf := (hf.trans (show fx_G_join N L i j q fm tt Lc = Lc from rfl))
        exact rretV S hr hlk (by rw [eqf]) hP hK hD hS d_G_join_61
      · have c1a : ¬ (N ≤ q) := fun h => c1 ((nI_leI (a := N) (b := q) (by omega) (by omega)).mpr h)
        omega
    | succ n ih =>
      intro q fm tt Lc hk  H locs hP hD hS ls hl hf
      refine lv_iload hx hb d_G_join_25 (lv_at hl 3 rfl) ?_
      refine lv_aload_n hx hb d_G_join_27 rfl (lv_at hl 0 rfl) ?_
      refine rget S hK hP 0 rfl rfl in_G 0 (by decide) kF_G_7 rfl d_G_join_28 ?_
      refine ralen (n := N) S hK hP 1 0 rfl rfl rfl d_G_join_31 ?_
      refine lv_icmp_ge (tgt := 61) hx hb d_G_join_32 (by decide) (fun c2 => ?_) (fun c2 => ?_)
      · have c2a : N ≤ q := (nI_leI (a := N) (b := q) (by omega) (by omega)).mp c2
        omega
      · have c2a : ¬ (N ≤ q) := fun h => c2 ((nI_leI (a := N) (b := q) (by omega) (by omega)).mpr h)
        refine lv_aload_n hx hb d_G_join_35 rfl (lv_at hl 0 rfl) ?_
        refine rget S hK hP 0 rfl rfl in_G 0 (by decide) kF_G_7 rfl d_G_join_36 ?_
        refine lv_iload hx hb d_G_join_39 (lv_at hl 3 rfl) ?_
        refine rnald (j := q) S hK hP 1 0 rfl rfl (by omega) (by first | decide | omega) d_G_join_41 ?_
        refine lv_iload_n hx hb d_G_join_42 rfl (lv_at hl 1 rfl) ?_
        refine lv_icmp_ne (tgt := 55) hx hb d_G_join_43 (by decide) (fun c3 => ?_) (fun c3 => ?_)
        · have c3a : ¬ (nI (Lc q) = nI (fm)) := c3
          refine lv_iinc (v := nI (q + 1)) (lv' := [(5, .int (nI (q + 1))), (0, .ref hg), (3, .int (nI (fm))), (4, .int (nI (tt)))]) hx hb d_G_join_55 hl (k := 3) rfl (nI_1 (q)) (by decide) rfl (fun ls hl => ?_)
          refine lv_goto (tgt := 25) hx hb d_G_join_58 (by decide) ?_
          exact ih (q + 1) fm tt Lc (by omega)  _ _ (hP.sub [0, 1] rfl) (hD.sub [0, 1] (by decide) rfl) hS ls (lv_sub hl [1, 2, 3, 0] rfl) (hf.trans (show fb_G_join N L i j (fl_G_join N L i j n) q fm tt Lc = (fl_G_join N L i j n (q + 1) fm tt Lc) from by unfold fb_G_join; rw [if_neg c3a]))
        · have c3a : nI (Lc q) = nI (fm) := c3
          refine lv_aload_n hx hb d_G_join_46 rfl (lv_at hl 0 rfl) ?_
          refine rget S hK hP 0 rfl rfl in_G 0 (by decide) kF_G_7 rfl d_G_join_47 ?_
          refine lv_iload hx hb d_G_join_50 (lv_at hl 3 rfl) ?_
          refine lv_iload hx hb d_G_join_52 (lv_at hl 2 rfl) ?_
          refine rnast (j := q) (x := tt) S hK hP hD hS 1 0 rfl rfl (by omega) (by first | decide | omega) d_G_join_54 (fun H locs hP hD hS => ?_)
          have hP : va_P D CLS [(hg, .inr (0, [.ref hl0])), (hl0, .inl (cI, N, .inl (fun z9 => nI ((updN Lc q tt) z9))))] H := hP
          have hD : va_D A [(hg, .inr (0, [.ref hl0])), (hl0, .inl (cI, N, .inl (fun z9 => nI ((updN Lc q tt) z9))))] := hD
          refine lv_iinc (v := nI (q + 1)) (lv' := [(5, .int (nI (q + 1))), (0, .ref hg), (3, .int (nI (fm))), (4, .int (nI (tt)))]) hx hb d_G_join_55 hl (k := 3) rfl (nI_1 (q)) (by decide) rfl (fun ls hl => ?_)
          refine lv_goto (tgt := 25) hx hb d_G_join_58 (by decide) ?_
          exact ih (q + 1) fm tt (updN Lc q tt) (by omega)  _ _ (hP.sub [0, 1] rfl) (hD.sub [0, 1] (by decide) rfl) hS ls (lv_sub hl [1, 2, 3, 0] rfl) (hf.trans (show fb_G_join N L i j (fl_G_join N L i j n) q fm tt Lc = (fl_G_join N L i j n (q + 1) fm tt (updN Lc q tt)) from by unfold fb_G_join; rw [if_pos c3a]))
  refine lv_aload_n hx hb d_G_join_0 rfl (lv_at hl 0 rfl) ?_
  refine rget S hK hP 0 rfl rfl in_G 0 (by decide) kF_G_7 rfl d_G_join_1 ?_
  refine lv_iload_n hx hb d_G_join_4 rfl (lv_at hl 1 rfl) ?_
  refine rnald (j := i) S hK hP 1 0 rfl rfl (by omega) (by first | decide | omega) d_G_join_5 ?_
  refine lv_istore_n (lv' := [(3, .int (nI (L i))), (0, .ref hg), (1, .int (nI (i))), (2, .int (nI (j)))]) hx hb d_G_join_6 rfl hl (by decide) rfl (fun ls hl => ?_)
  refine lv_aload_n hx hb d_G_join_7 rfl (lv_at hl 1 rfl) ?_
  refine rget S hK hP 0 rfl rfl in_G 0 (by decide) kF_G_7 rfl d_G_join_8 ?_
  refine lv_iload_n hx hb d_G_join_11 rfl (lv_at hl 3 rfl) ?_
  refine rnald (j := j) S hK hP 1 0 rfl rfl (by omega) (by first | decide | omega) d_G_join_12 ?_
  refine lv_istore (lv' := [(4, .int (nI (L j))), (3, .int (nI (L i))), (0, .ref hg), (1, .int (nI (i))), (2, .int (nI (j)))]) hx hb d_G_join_13 hl (by decide) rfl (fun ls hl => ?_)
  refine lv_iload_n hx hb d_G_join_15 rfl (lv_at hl 1 rfl) ?_
  refine lv_iload hx hb d_G_join_16 (lv_at hl 0 rfl) ?_
  refine lv_icmp_ne (tgt := 22) hx hb d_G_join_18 (by decide) (fun c4 => ?_) (fun c4 => ?_)
  · have c4a : ¬ (nI (L i) = nI (L j)) := c4
    refine lv_iconst (v := 0) hx hb d_G_join_22 (by decide) ?_
    refine lv_istore (lv' := [(5, .int 0), (4, .int (nI (L j))), (3, .int (nI (L i))), (0, .ref hg), (1, .int (nI (i))), (2, .int (nI (j)))]) hx hb d_G_join_23 hl (by decide) rfl (fun ls hl => ?_)
    exact key N 0 (L i) (L j) L (by omega)  _ _ (hP.sub [0, 1] rfl) (hD.sub [0, 1] (by decide) rfl) hS ls (lv_sub hl [3, 2, 1, 0] rfl) (show f_G_join N L i j = (fl_G_join N L i j N 0 (L i) (L j) L) from by unfold f_G_join; rw [if_neg c4a])
  · have c4a : nI (L i) = nI (L j) := c4
    have eqf := (show f_G_join N L i j = L from by unfold f_G_join; rw [if_pos c4a])
    exact rretV S hr hlk (by rw [eqf]) hP hK hD hS d_G_join_21
def f_M_sketch (u : Nat → Bool) (X : Nat → Int32) (Y : Nat → Int32) (k : Nat) (x : Int32) (y : Int32) (z : Int32) (w : Int32) : (Nat → Int32) × (Nat → Int32) := if x < z then (upd (upd X (2 * k) x) (tw (2 * k)) z, upd (upd Y (2 * k) y) (tw (2 * k)) w) else (if x = z then (if w ≤ y then (upd (upd X ((2 * k) + 1) x) (tw ((2 * k) + 1)) z, upd (upd Y ((2 * k) + 1) y) (tw ((2 * k) + 1)) w) else (upd (upd X (2 * k) x) (tw (2 * k)) z, upd (upd Y (2 * k) y) (tw (2 * k)) w)) else (upd (upd X ((2 * k) + 1) x) (tw ((2 * k) + 1)) z, upd (upd Y ((2 * k) + 1) y) (tw ((2 * k) + 1)) w))
theorem i_M_sketch : inV y_M_sketch b_M_sketch 8 (none) 5 := ⟨kM_y_M_sketch, kV_y_M_sketch, kI_M, kY_y_M_sketch, by decide +kernel⟩
set_option maxHeartbeats 4000000 in
set_option maxRecDepth 100000 in
theorem c_M_sketch (l : Launch) (D : va_G) (hm hu hxs hys : Nat) (cZ cI : ClassId) (u : Nat → Bool) (X Y : Nat → Int32) (k : Nat) (x : Int32) (y : Int32) (z : Int32) (w : Int32) (sz : Nat) (hk : k < 20)  : SMv l y_M_sketch b_M_sketch 8 0 0 D [(hm, .inr (1, [.ref hu, .ref hxs, .ref hys])), (hu, .inl (cZ, 20, .inl (fun z9 => b2i (u z9)))), (hxs, .inl (cI, 40, .inl X)), (hys, .inl (cI, 40, .inl Y))] [(cZ, .boolean), (cI, .int)] [.ref hm, .int (nI (k)), .int x, .int y, .int z, .int w] sz [(hm, .inr (1, [.ref hu, .ref hxs, .ref hys])), (hu, .inl (cZ, 20, .inl (fun z9 => b2i (u z9)))), (hxs, .inl (cI, 40, .inl ((f_M_sketch u X Y k x y z w).1))), (hys, .inl (cI, 40, .inl ((f_M_sketch u X Y k x y z w).2)))] := by
  refine sMet (Qc := fun A => sQv D [(hm, .inr (1, [.ref hu, .ref hxs, .ref hys])), (hu, .inl (cZ, 20, .inl (fun z9 => b2i (u z9)))), (hxs, .inl (cI, 40, .inl ((f_M_sketch u X Y k x y z w).1))), (hys, .inl (cI, 40, .inl ((f_M_sketch u X Y k x y z w).2)))] [(cZ, .boolean), (cI, .int)] A) rfl (fun p e s m below meth c A S hr hlk hP hK hD hA hS ls hl => ?_) (Nat.le_of_ble_eq_true rfl)
  have hx := S.1
  have hb := S.2.1
  have hl : lv_has ls 8 [(0, .ref hm), (1, .int (nI (k))), (2, .int x), (3, .int y), (4, .int z), (5, .int w)] := hl
  refine lv_iload_n hx hb d_M_sketch_0 rfl (lv_at hl 2 rfl) ?_
  refine lv_iload hx hb d_M_sketch_1 (lv_at hl 4 rfl) ?_
  refine lv_icmp_lt (tgt := 18) hx hb d_M_sketch_3 (by decide) (fun c1 => ?_) (fun c1 => ?_)
  · have c1a : x < z := c1
    refine lv_iconst (v := 1) hx hb d_M_sketch_18 (by decide) ?_
    refine lv_goto (tgt := 23) hx hb d_M_sketch_19 (by decide) ?_
    refine lv_istore (lv' := [(6, .int 1), (0, .ref hm), (1, .int (nI (k))), (2, .int x), (3, .int y), (4, .int z), (5, .int w)]) hx hb d_M_sketch_23 hl (by decide) rfl (fun ls hl => ?_)
    refine lv_iload hx hb d_M_sketch_25 (lv_at hl 0 rfl) ?_
    refine lv_if_eq (tgt := 36) hx hb d_M_sketch_27 (by decide) (fun h => absurd h (by decide)) (fun _ => ?_)
    refine lv_iconst (v := 2) hx hb d_M_sketch_30 (by decide) ?_
    refine lv_iload_n hx hb d_M_sketch_31 rfl (lv_at hl 2 rfl) ?_
    refine lv_imul hx hb d_M_sketch_32 ?_
    refine rtop (y := nI (2 * k)) (pk_mul (2) (k)) ?_
    refine lv_goto (tgt := 41) hx hb d_M_sketch_33 (by decide) ?_
    refine lv_istore (lv' := [(7, .int (nI (2 * k))), (6, .int 1), (0, .ref hm), (1, .int (nI (k))), (2, .int x), (3, .int y), (4, .int z), (5, .int w)]) hx hb d_M_sketch_41 hl (by decide) rfl (fun ls hl => ?_)
    refine lv_aload_n hx hb d_M_sketch_43 rfl (lv_at hl 2 rfl) ?_
    refine rget S hK hP 0 rfl rfl in_M 1 (by decide) kF_M_15 rfl d_M_sketch_44 ?_
    refine lv_iload hx hb d_M_sketch_47 (lv_at hl 0 rfl) ?_
    refine lv_iload_n hx hb d_M_sketch_49 rfl (lv_at hl 4 rfl) ?_
    refine riast (j := 2 * k) (x := x) S hK hP hD hS 2 1 rfl rfl (by omega) (by first | decide | omega) d_M_sketch_50 (fun H locs hP hD hS => ?_)
    have hP : va_P D CLS [(hm, .inr (1, [.ref hu, .ref hxs, .ref hys])), (hu, .inl (cZ, 20, .inl (fun z9 => b2i (u z9)))), (hxs, .inl (cI, 40, .inl (upd X (2 * k) x))), (hys, .inl (cI, 40, .inl Y))] H := hP
    have hD : va_D A [(hm, .inr (1, [.ref hu, .ref hxs, .ref hys])), (hu, .inl (cZ, 20, .inl (fun z9 => b2i (u z9)))), (hxs, .inl (cI, 40, .inl (upd X (2 * k) x))), (hys, .inl (cI, 40, .inl Y))] := hD
    refine lv_aload_n hx hb d_M_sketch_51 rfl (lv_at hl 2 rfl) ?_
    refine rget S hK hP 0 rfl rfl in_M 2 (by decide) kF_M_19 rfl d_M_sketch_52 ?_
    refine lv_iload hx hb d_M_sketch_55 (lv_at hl 0 rfl) ?_
    refine lv_iload_n hx hb d_M_sketch_57 rfl (lv_at hl 5 rfl) ?_
    refine riast (j := 2 * k) (x := y) S hK hP hD hS 3 1 rfl rfl (by omega) (by first | decide | omega) d_M_sketch_58 (fun H locs hP hD hS => ?_)
    have hP : va_P D CLS [(hm, .inr (1, [.ref hu, .ref hxs, .ref hys])), (hu, .inl (cZ, 20, .inl (fun z9 => b2i (u z9)))), (hxs, .inl (cI, 40, .inl (upd X (2 * k) x))), (hys, .inl (cI, 40, .inl (upd Y (2 * k) y)))] H := hP
    have hD : va_D A [(hm, .inr (1, [.ref hu, .ref hxs, .ref hys])), (hu, .inl (cZ, 20, .inl (fun z9 => b2i (u z9)))), (hxs, .inl (cI, 40, .inl (upd X (2 * k) x))), (hys, .inl (cI, 40, .inl (upd Y (2 * k) y)))] := hD
    refine lv_aload_n hx hb d_M_sketch_59 rfl (lv_at hl 2 rfl) ?_
    refine rget S hK hP 0 rfl rfl in_M 1 (by decide) kF_M_15 rfl d_M_sketch_60 ?_
    refine lv_iload hx hb d_M_sketch_63 (lv_at hl 0 rfl) ?_
    refine lv_iconst (v := 1) hx hb d_M_sketch_65 (by decide) ?_
    refine lv_ixor hx hb d_M_sketch_66 ?_
    refine rtop (y := nI (tw (2 * k))) (nI_xor1 (2 * k) (by omega)) ?_
    refine lv_iload hx hb d_M_sketch_67 (lv_at hl 6 rfl) ?_
    refine riast (j := tw (2 * k)) (x := z) S hK hP hD hS 2 1 rfl rfl (tw_lt (by omega)) (by first | decide | omega) d_M_sketch_69 (fun H locs hP hD hS => ?_)
    have hP : va_P D CLS [(hm, .inr (1, [.ref hu, .ref hxs, .ref hys])), (hu, .inl (cZ, 20, .inl (fun z9 => b2i (u z9)))), (hxs, .inl (cI, 40, .inl (upd (upd X (2 * k) x) (tw (2 * k)) z))), (hys, .inl (cI, 40, .inl (upd Y (2 * k) y)))] H := hP
    have hD : va_D A [(hm, .inr (1, [.ref hu, .ref hxs, .ref hys])), (hu, .inl (cZ, 20, .inl (fun z9 => b2i (u z9)))), (hxs, .inl (cI, 40, .inl (upd (upd X (2 * k) x) (tw (2 * k)) z))), (hys, .inl (cI, 40, .inl (upd Y (2 * k) y)))] := hD
    refine lv_aload_n hx hb d_M_sketch_70 rfl (lv_at hl 2 rfl) ?_
    refine rget S hK hP 0 rfl rfl in_M 2 (by decide) kF_M_19 rfl d_M_sketch_71 ?_
    refine lv_iload hx hb d_M_sketch_74 (lv_at hl 0 rfl) ?_
    refine lv_iconst (v := 1) hx hb d_M_sketch_76 (by decide) ?_
    refine lv_ixor hx hb d_M_sketch_77 ?_
    refine rtop (y := nI (tw (2 * k))) (nI_xor1 (2 * k) (by omega)) ?_
    refine lv_iload hx hb d_M_sketch_78 (lv_at hl 7 rfl) ?_
    refine riast (j := tw (2 * k)) (x := w) S hK hP hD hS 3 1 rfl rfl (tw_lt (by omega)) (by first | decide | omega) d_M_sketch_80 (fun H locs hP hD hS => ?_)
    have hP : va_P D CLS [(hm, .inr (1, [.ref hu, .ref hxs, .ref hys])), (hu, .inl (cZ, 20, .inl (fun z9 => b2i (u z9)))), (hxs, .inl (cI, 40, .inl (upd (upd X (2 * k) x) (tw (2 * k)) z))), (hys, .inl (cI, 40, .inl (upd (upd Y (2 * k) y) (tw (2 * k)) w)))] H := hP
    have hD : va_D A [(hm, .inr (1, [.ref hu, .ref hxs, .ref hys])), (hu, .inl (cZ, 20, .inl (fun z9 => b2i (u z9)))), (hxs, .inl (cI, 40, .inl (upd (upd X (2 * k) x) (tw (2 * k)) z))), (hys, .inl (cI, 40, .inl (upd (upd Y (2 * k) y) (tw (2 * k)) w)))] := hD
    have eqf := (show f_M_sketch u X Y k x y z w = (upd (upd X (2 * k) x) (tw (2 * k)) z, upd (upd Y (2 * k) y) (tw (2 * k)) w) from by unfold f_M_sketch; rw [if_pos c1a])
    exact rretV S hr hlk (by rw [eqf]) hP hK hD hS d_M_sketch_81
  · have c1a : ¬ (x < z) := c1
    refine lv_iload_n hx hb d_M_sketch_6 rfl (lv_at hl 2 rfl) ?_
    refine lv_iload hx hb d_M_sketch_7 (lv_at hl 4 rfl) ?_
    refine lv_icmp_ne (tgt := 22) hx hb d_M_sketch_9 (by decide) (fun c3 => ?_) (fun c3 => ?_)
    · have c3a : ¬ (x = z) := c3
      refine lv_iconst (v := 0) hx hb d_M_sketch_22 (by decide) ?_
      refine lv_istore (lv' := [(6, .int 0), (0, .ref hm), (1, .int (nI (k))), (2, .int x), (3, .int y), (4, .int z), (5, .int w)]) hx hb d_M_sketch_23 hl (by decide) rfl (fun ls hl => ?_)
      refine lv_iload hx hb d_M_sketch_25 (lv_at hl 0 rfl) ?_
      refine lv_if_eq (tgt := 36) hx hb d_M_sketch_27 (by decide) (fun _ => ?_) (fun h => absurd (by decide) h)
      refine lv_iconst (v := 2) hx hb d_M_sketch_36 (by decide) ?_
      refine lv_iload_n hx hb d_M_sketch_37 rfl (lv_at hl 2 rfl) ?_
      refine lv_imul hx hb d_M_sketch_38 ?_
      refine rtop (y := nI (2 * k)) (pk_mul (2) (k)) ?_
      refine lv_iconst (v := 1) hx hb d_M_sketch_39 (by decide) ?_
      refine lv_iadd hx hb d_M_sketch_40 ?_
      refine rtop (y := nI ((2 * k) + 1)) (nI_add (2 * k) (1)) ?_
      refine lv_istore (lv' := [(7, .int (nI ((2 * k) + 1))), (6, .int 0), (0, .ref hm), (1, .int (nI (k))), (2, .int x), (3, .int y), (4, .int z), (5, .int w)]) hx hb d_M_sketch_41 hl (by decide) rfl (fun ls hl => ?_)
      refine lv_aload_n hx hb d_M_sketch_43 rfl (lv_at hl 2 rfl) ?_
      refine rget S hK hP 0 rfl rfl in_M 1 (by decide) kF_M_15 rfl d_M_sketch_44 ?_
      refine lv_iload hx hb d_M_sketch_47 (lv_at hl 0 rfl) ?_
      refine lv_iload_n hx hb d_M_sketch_49 rfl (lv_at hl 4 rfl) ?_
      refine riast (j := (2 * k) + 1) (x := x) S hK hP hD hS 2 1 rfl rfl (by omega) (by first | decide | omega) d_M_sketch_50 (fun H locs hP hD hS => ?_)
      have hP : va_P D CLS [(hm, .inr (1, [.ref hu, .ref hxs, .ref hys])), (hu, .inl (cZ, 20, .inl (fun z9 => b2i (u z9)))), (hxs, .inl (cI, 40, .inl (upd X ((2 * k) + 1) x))), (hys, .inl (cI, 40, .inl Y))] H := hP
      have hD : va_D A [(hm, .inr (1, [.ref hu, .ref hxs, .ref hys])), (hu, .inl (cZ, 20, .inl (fun z9 => b2i (u z9)))), (hxs, .inl (cI, 40, .inl (upd X ((2 * k) + 1) x))), (hys, .inl (cI, 40, .inl Y))] := hD
      refine lv_aload_n hx hb d_M_sketch_51 rfl (lv_at hl 2 rfl) ?_
      refine rget S hK hP 0 rfl rfl in_M 2 (by decide) kF_M_19 rfl d_M_sketch_52 ?_
      refine lv_iload hx hb d_M_sketch_55 (lv_at hl 0 rfl) ?_
      refine lv_iload_n hx hb d_M_sketch_57 rfl (lv_at hl 5 rfl) ?_
      refine riast (j := (2 * k) + 1) (x := y) S hK hP hD hS 3 1 rfl rfl (by omega) (by first | decide | omega) d_M_sketch_58 (fun H locs hP hD hS => ?_)
      have hP : va_P D CLS [(hm, .inr (1, [.ref hu, .ref hxs, .ref hys])), (hu, .inl (cZ, 20, .inl (fun z9 => b2i (u z9)))), (hxs, .inl (cI, 40, .inl (upd X ((2 * k) + 1) x))), (hys, .inl (cI, 40, .inl (upd Y ((2 * k) + 1) y)))] H := hP
      have hD : va_D A [(hm, .inr (1, [.ref hu, .ref hxs, .ref hys])), (hu, .inl (cZ, 20, .inl (fun z9 => b2i (u z9)))), (hxs, .inl (cI, 40, .inl (upd X ((2 * k) + 1) x))), (hys, .inl (cI, 40, .inl (upd Y ((2 * k) + 1) y)))] := hD
      refine lv_aload_n hx hb d_M_sketch_59 rfl (lv_at hl 2 rfl) ?_
      refine rget S hK hP 0 rfl rfl in_M 1 (by decide) kF_M_15 rfl d_M_sketch_60 ?_
      refine lv_iload hx hb d_M_sketch_63 (lv_at hl 0 rfl) ?_
      refine lv_iconst (v := 1) hx hb d_M_sketch_65 (by decide) ?_
      refine lv_ixor hx hb d_M_sketch_66 ?_
      refine rtop (y := nI (tw ((2 * k) + 1))) (nI_xor1 ((2 * k) + 1) (by omega)) ?_
      refine lv_iload hx hb d_M_sketch_67 (lv_at hl 6 rfl) ?_
      refine riast (j := tw ((2 * k) + 1)) (x := z) S hK hP hD hS 2 1 rfl rfl (tw_lt (by omega)) (by first | decide | omega) d_M_sketch_69 (fun H locs hP hD hS => ?_)
      have hP : va_P D CLS [(hm, .inr (1, [.ref hu, .ref hxs, .ref hys])), (hu, .inl (cZ, 20, .inl (fun z9 => b2i (u z9)))), (hxs, .inl (cI, 40, .inl (upd (upd X ((2 * k) + 1) x) (tw ((2 * k) + 1)) z))), (hys, .inl (cI, 40, .inl (upd Y ((2 * k) + 1) y)))] H := hP
      have hD : va_D A [(hm, .inr (1, [.ref hu, .ref hxs, .ref hys])), (hu, .inl (cZ, 20, .inl (fun z9 => b2i (u z9)))), (hxs, .inl (cI, 40, .inl (upd (upd X ((2 * k) + 1) x) (tw ((2 * k) + 1)) z))), (hys, .inl (cI, 40, .inl (upd Y ((2 * k) + 1) y)))] := hD
      refine lv_aload_n hx hb d_M_sketch_70 rfl (lv_at hl 2 rfl) ?_
      refine rget S hK hP 0 rfl rfl in_M 2 (by decide) kF_M_19 rfl d_M_sketch_71 ?_
      refine lv_iload hx hb d_M_sketch_74 (lv_at hl 0 rfl) ?_
      refine lv_iconst (v := 1) hx hb d_M_sketch_76 (by decide) ?_
      refine lv_ixor hx hb d_M_sketch_77 ?_
      refine rtop (y := nI (tw ((2 * k) + 1))) (nI_xor1 ((2 * k) + 1) (by omega)) ?_
      refine lv_iload hx hb d_M_sketch_78 (lv_at hl 7 rfl) ?_
      refine riast (j := tw ((2 * k) + 1)) (x := w) S hK hP hD hS 3 1 rfl rfl (tw_lt (by omega)) (by first | decide | omega) d_M_sketch_80 (fun H locs hP hD hS => ?_)
      have hP : va_P D CLS [(hm, .inr (1, [.ref hu, .ref hxs, .ref hys])), (hu, .inl (cZ, 20, .inl (fun z9 => b2i (u z9)))), (hxs, .inl (cI, 40, .inl (upd (upd X ((2 * k) + 1) x) (tw ((2 * k) + 1)) z))), (hys, .inl (cI, 40, .inl (upd (upd Y ((2 * k) + 1) y) (tw ((2 * k) + 1)) w)))] H := hP
      have hD : va_D A [(hm, .inr (1, [.ref hu, .ref hxs, .ref hys])), (hu, .inl (cZ, 20, .inl (fun z9 => b2i (u z9)))), (hxs, .inl (cI, 40, .inl (upd (upd X ((2 * k) + 1) x) (tw ((2 * k) + 1)) z))), (hys, .inl (cI, 40, .inl (upd (upd Y ((2 * k) + 1) y) (tw ((2 * k) + 1)) w)))] := hD
      have eqf := (show f_M_sketch u X Y k x y z w = (upd (upd X ((2 * k) + 1) x) (tw ((2 * k) + 1)) z, upd (upd Y ((2 * k) + 1) y) (tw ((2 * k) + 1)) w) from by unfold f_M_sketch; rw [if_neg c1a, if_neg c3a])
      exact rretV S hr hlk (by rw [eqf]) hP hK hD hS d_M_sketch_81
    · have c3a : x = z := c3
      refine lv_iload_n hx hb d_M_sketch_12 rfl (lv_at hl 3 rfl) ?_
      refine lv_iload hx hb d_M_sketch_13 (lv_at hl 5 rfl) ?_
      refine lv_icmp_ge (tgt := 22) hx hb d_M_sketch_15 (by decide) (fun c5 => ?_) (fun c5 => ?_)
      · have c5a : w ≤ y := c5
        refine lv_iconst (v := 0) hx hb d_M_sketch_22 (by decide) ?_
        refine lv_istore (lv' := [(6, .int 0), (0, .ref hm), (1, .int (nI (k))), (2, .int x), (3, .int y), (4, .int z), (5, .int w)]) hx hb d_M_sketch_23 hl (by decide) rfl (fun ls hl => ?_)
        refine lv_iload hx hb d_M_sketch_25 (lv_at hl 0 rfl) ?_
        refine lv_if_eq (tgt := 36) hx hb d_M_sketch_27 (by decide) (fun _ => ?_) (fun h => absurd (by decide) h)
        refine lv_iconst (v := 2) hx hb d_M_sketch_36 (by decide) ?_
        refine lv_iload_n hx hb d_M_sketch_37 rfl (lv_at hl 2 rfl) ?_
        refine lv_imul hx hb d_M_sketch_38 ?_
        refine rtop (y := nI (2 * k)) (pk_mul (2) (k)) ?_
        refine lv_iconst (v := 1) hx hb d_M_sketch_39 (by decide) ?_
        refine lv_iadd hx hb d_M_sketch_40 ?_
        refine rtop (y := nI ((2 * k) + 1)) (nI_add (2 * k) (1)) ?_
        refine lv_istore (lv' := [(7, .int (nI ((2 * k) + 1))), (6, .int 0), (0, .ref hm), (1, .int (nI (k))), (2, .int x), (3, .int y), (4, .int z), (5, .int w)]) hx hb d_M_sketch_41 hl (by decide) rfl (fun ls hl => ?_)
        refine lv_aload_n hx hb d_M_sketch_43 rfl (lv_at hl 2 rfl) ?_
        refine rget S hK hP 0 rfl rfl in_M 1 (by decide) kF_M_15 rfl d_M_sketch_44 ?_
        refine lv_iload hx hb d_M_sketch_47 (lv_at hl 0 rfl) ?_
        refine lv_iload_n hx hb d_M_sketch_49 rfl (lv_at hl 4 rfl) ?_
        refine riast (j := (2 * k) + 1) (x := x) S hK hP hD hS 2 1 rfl rfl (by omega) (by first | decide | omega) d_M_sketch_50 (fun H locs hP hD hS => ?_)
        have hP : va_P D CLS [(hm, .inr (1, [.ref hu, .ref hxs, .ref hys])), (hu, .inl (cZ, 20, .inl (fun z9 => b2i (u z9)))), (hxs, .inl (cI, 40, .inl (upd X ((2 * k) + 1) x))), (hys, .inl (cI, 40, .inl Y))] H := hP
        have hD : va_D A [(hm, .inr (1, [.ref hu, .ref hxs, .ref hys])), (hu, .inl (cZ, 20, .inl (fun z9 => b2i (u z9)))), (hxs, .inl (cI, 40, .inl (upd X ((2 * k) + 1) x))), (hys, .inl (cI, 40, .inl Y))] := hD
        refine lv_aload_n hx hb d_M_sketch_51 rfl (lv_at hl 2 rfl) ?_
        refine rget S hK hP 0 rfl rfl in_M 2 (by decide) kF_M_19 rfl d_M_sketch_52 ?_
        refine lv_iload hx hb d_M_sketch_55 (lv_at hl 0 rfl) ?_
        refine lv_iload_n hx hb d_M_sketch_57 rfl (lv_at hl 5 rfl) ?_
        refine riast (j := (2 * k) + 1) (x := y) S hK hP hD hS 3 1 rfl rfl (by omega) (by first | decide | omega) d_M_sketch_58 (fun H locs hP hD hS => ?_)
        have hP : va_P D CLS [(hm, .inr (1, [.ref hu, .ref hxs, .ref hys])), (hu, .inl (cZ, 20, .inl (fun z9 => b2i (u z9)))), (hxs, .inl (cI, 40, .inl (upd X ((2 * k) + 1) x))), (hys, .inl (cI, 40, .inl (upd Y ((2 * k) + 1) y)))] H := hP
        have hD : va_D A [(hm, .inr (1, [.ref hu, .ref hxs, .ref hys])), (hu, .inl (cZ, 20, .inl (fun z9 => b2i (u z9)))), (hxs, .inl (cI, 40, .inl (upd X ((2 * k) + 1) x))), (hys, .inl (cI, 40, .inl (upd Y ((2 * k) + 1) y)))] := hD
        refine lv_aload_n hx hb d_M_sketch_59 rfl (lv_at hl 2 rfl) ?_
        refine rget S hK hP 0 rfl rfl in_M 1 (by decide) kF_M_15 rfl d_M_sketch_60 ?_
        refine lv_iload hx hb d_M_sketch_63 (lv_at hl 0 rfl) ?_
        refine lv_iconst (v := 1) hx hb d_M_sketch_65 (by decide) ?_
        refine lv_ixor hx hb d_M_sketch_66 ?_
        refine rtop (y := nI (tw ((2 * k) + 1))) (nI_xor1 ((2 * k) + 1) (by omega)) ?_
        refine lv_iload hx hb d_M_sketch_67 (lv_at hl 6 rfl) ?_
        refine riast (j := tw ((2 * k) + 1)) (x := z) S hK hP hD hS 2 1 rfl rfl (tw_lt (by omega)) (by first | decide | omega) d_M_sketch_69 (fun H locs hP hD hS => ?_)
        have hP : va_P D CLS [(hm, .inr (1, [.ref hu, .ref hxs, .ref hys])), (hu, .inl (cZ, 20, .inl (fun z9 => b2i (u z9)))), (hxs, .inl (cI, 40, .inl (upd (upd X ((2 * k) + 1) x) (tw ((2 * k) + 1)) z))), (hys, .inl (cI, 40, .inl (upd Y ((2 * k) + 1) y)))] H := hP
        have hD : va_D A [(hm, .inr (1, [.ref hu, .ref hxs, .ref hys])), (hu, .inl (cZ, 20, .inl (fun z9 => b2i (u z9)))), (hxs, .inl (cI, 40, .inl (upd (upd X ((2 * k) + 1) x) (tw ((2 * k) + 1)) z))), (hys, .inl (cI, 40, .inl (upd Y ((2 * k) + 1) y)))] := hD
        refine lv_aload_n hx hb d_M_sketch_70 rfl (lv_at hl 2 rfl) ?_
        refine rget S hK hP 0 rfl rfl in_M 2 (by decide) kF_M_19 rfl d_M_sketch_71 ?_
        refine lv_iload hx hb d_M_sketch_74 (lv_at hl 0 rfl) ?_
        refine lv_iconst (v := 1) hx hb d_M_sketch_76 (by decide) ?_
        refine lv_ixor hx hb d_M_sketch_77 ?_
        refine rtop (y := nI (tw ((2 * k) + 1))) (nI_xor1 ((2 * k) + 1) (by omega)) ?_
        refine lv_iload hx hb d_M_sketch_78 (lv_at hl 7 rfl) ?_
        refine riast (j := tw ((2 * k) + 1)) (x := w) S hK hP hD hS 3 1 rfl rfl (tw_lt (by omega)) (by first | decide | omega) d_M_sketch_80 (fun H locs hP hD hS => ?_)
        have hP : va_P D CLS [(hm, .inr (1, [.ref hu, .ref hxs, .ref hys])), (hu, .inl (cZ, 20, .inl (fun z9 => b2i (u z9)))), (hxs, .inl (cI, 40, .inl (upd (upd X ((2 * k) + 1) x) (tw ((2 * k) + 1)) z))), (hys, .inl (cI, 40, .inl (upd (upd Y ((2 * k) + 1) y) (tw ((2 * k) + 1)) w)))] H := hP
        have hD : va_D A [(hm, .inr (1, [.ref hu, .ref hxs, .ref hys])), (hu, .inl (cZ, 20, .inl (fun z9 => b2i (u z9)))), (hxs, .inl (cI, 40, .inl (upd (upd X ((2 * k) + 1) x) (tw ((2 * k) + 1)) z))), (hys, .inl (cI, 40, .inl (upd (upd Y ((2 * k) + 1) y) (tw ((2 * k) + 1)) w)))] := hD
        have eqf := (show f_M_sketch u X Y k x y z w = (upd (upd X ((2 * k) + 1) x) (tw ((2 * k) + 1)) z, upd (upd Y ((2 * k) + 1) y) (tw ((2 * k) + 1)) w) from by unfold f_M_sketch; rw [if_neg c1a, if_pos c3a, if_pos c5a])
        exact rretV S hr hlk (by rw [eqf]) hP hK hD hS d_M_sketch_81
      · have c5a : ¬ (w ≤ y) := c5
        refine lv_iconst (v := 1) hx hb d_M_sketch_18 (by decide) ?_
        refine lv_goto (tgt := 23) hx hb d_M_sketch_19 (by decide) ?_
        refine lv_istore (lv' := [(6, .int 1), (0, .ref hm), (1, .int (nI (k))), (2, .int x), (3, .int y), (4, .int z), (5, .int w)]) hx hb d_M_sketch_23 hl (by decide) rfl (fun ls hl => ?_)
        refine lv_iload hx hb d_M_sketch_25 (lv_at hl 0 rfl) ?_
        refine lv_if_eq (tgt := 36) hx hb d_M_sketch_27 (by decide) (fun h => absurd h (by decide)) (fun _ => ?_)
        refine lv_iconst (v := 2) hx hb d_M_sketch_30 (by decide) ?_
        refine lv_iload_n hx hb d_M_sketch_31 rfl (lv_at hl 2 rfl) ?_
        refine lv_imul hx hb d_M_sketch_32 ?_
        refine rtop (y := nI (2 * k)) (pk_mul (2) (k)) ?_
        refine lv_goto (tgt := 41) hx hb d_M_sketch_33 (by decide) ?_
        refine lv_istore (lv' := [(7, .int (nI (2 * k))), (6, .int 1), (0, .ref hm), (1, .int (nI (k))), (2, .int x), (3, .int y), (4, .int z), (5, .int w)]) hx hb d_M_sketch_41 hl (by decide) rfl (fun ls hl => ?_)
        refine lv_aload_n hx hb d_M_sketch_43 rfl (lv_at hl 2 rfl) ?_
        refine rget S hK hP 0 rfl rfl in_M 1 (by decide) kF_M_15 rfl d_M_sketch_44 ?_
        refine lv_iload hx hb d_M_sketch_47 (lv_at hl 0 rfl) ?_
        refine lv_iload_n hx hb d_M_sketch_49 rfl (lv_at hl 4 rfl) ?_
        refine riast (j := 2 * k) (x := x) S hK hP hD hS 2 1 rfl rfl (by omega) (by first | decide | omega) d_M_sketch_50 (fun H locs hP hD hS => ?_)
        have hP : va_P D CLS [(hm, .inr (1, [.ref hu, .ref hxs, .ref hys])), (hu, .inl (cZ, 20, .inl (fun z9 => b2i (u z9)))), (hxs, .inl (cI, 40, .inl (upd X (2 * k) x))), (hys, .inl (cI, 40, .inl Y))] H := hP
        have hD : va_D A [(hm, .inr (1, [.ref hu, .ref hxs, .ref hys])), (hu, .inl (cZ, 20, .inl (fun z9 => b2i (u z9)))), (hxs, .inl (cI, 40, .inl (upd X (2 * k) x))), (hys, .inl (cI, 40, .inl Y))] := hD
        refine lv_aload_n hx hb d_M_sketch_51 rfl (lv_at hl 2 rfl) ?_
        refine rget S hK hP 0 rfl rfl in_M 2 (by decide) kF_M_19 rfl d_M_sketch_52 ?_
        refine lv_iload hx hb d_M_sketch_55 (lv_at hl 0 rfl) ?_
        refine lv_iload_n hx hb d_M_sketch_57 rfl (lv_at hl 5 rfl) ?_
        refine riast (j := 2 * k) (x := y) S hK hP hD hS 3 1 rfl rfl (by omega) (by first | decide | omega) d_M_sketch_58 (fun H locs hP hD hS => ?_)
        have hP : va_P D CLS [(hm, .inr (1, [.ref hu, .ref hxs, .ref hys])), (hu, .inl (cZ, 20, .inl (fun z9 => b2i (u z9)))), (hxs, .inl (cI, 40, .inl (upd X (2 * k) x))), (hys, .inl (cI, 40, .inl (upd Y (2 * k) y)))] H := hP
        have hD : va_D A [(hm, .inr (1, [.ref hu, .ref hxs, .ref hys])), (hu, .inl (cZ, 20, .inl (fun z9 => b2i (u z9)))), (hxs, .inl (cI, 40, .inl (upd X (2 * k) x))), (hys, .inl (cI, 40, .inl (upd Y (2 * k) y)))] := hD
        refine lv_aload_n hx hb d_M_sketch_59 rfl (lv_at hl 2 rfl) ?_
        refine rget S hK hP 0 rfl rfl in_M 1 (by decide) kF_M_15 rfl d_M_sketch_60 ?_
        refine lv_iload hx hb d_M_sketch_63 (lv_at hl 0 rfl) ?_
        refine lv_iconst (v := 1) hx hb d_M_sketch_65 (by decide) ?_
        refine lv_ixor hx hb d_M_sketch_66 ?_
        refine rtop (y := nI (tw (2 * k))) (nI_xor1 (2 * k) (by omega)) ?_
        refine lv_iload hx hb d_M_sketch_67 (lv_at hl 6 rfl) ?_
        refine riast (j := tw (2 * k)) (x := z) S hK hP hD hS 2 1 rfl rfl (tw_lt (by omega)) (by first | decide | omega) d_M_sketch_69 (fun H locs hP hD hS => ?_)
        have hP : va_P D CLS [(hm, .inr (1, [.ref hu, .ref hxs, .ref hys])), (hu, .inl (cZ, 20, .inl (fun z9 => b2i (u z9)))), (hxs, .inl (cI, 40, .inl (upd (upd X (2 * k) x) (tw (2 * k)) z))), (hys, .inl (cI, 40, .inl (upd Y (2 * k) y)))] H := hP
        have hD : va_D A [(hm, .inr (1, [.ref hu, .ref hxs, .ref hys])), (hu, .inl (cZ, 20, .inl (fun z9 => b2i (u z9)))), (hxs, .inl (cI, 40, .inl (upd (upd X (2 * k) x) (tw (2 * k)) z))), (hys, .inl (cI, 40, .inl (upd Y (2 * k) y)))] := hD
        refine lv_aload_n hx hb d_M_sketch_70 rfl (lv_at hl 2 rfl) ?_
        refine rget S hK hP 0 rfl rfl in_M 2 (by decide) kF_M_19 rfl d_M_sketch_71 ?_
        refine lv_iload hx hb d_M_sketch_74 (lv_at hl 0 rfl) ?_
        refine lv_iconst (v := 1) hx hb d_M_sketch_76 (by decide) ?_
        refine lv_ixor hx hb d_M_sketch_77 ?_
        refine rtop (y := nI (tw (2 * k))) (nI_xor1 (2 * k) (by omega)) ?_
        refine lv_iload hx hb d_M_sketch_78 (lv_at hl 7 rfl) ?_
        refine riast (j := tw (2 * k)) (x := w) S hK hP hD hS 3 1 rfl rfl (tw_lt (by omega)) (by first | decide | omega) d_M_sketch_80 (fun H locs hP hD hS => ?_)
        have hP : va_P D CLS [(hm, .inr (1, [.ref hu, .ref hxs, .ref hys])), (hu, .inl (cZ, 20, .inl (fun z9 => b2i (u z9)))), (hxs, .inl (cI, 40, .inl (upd (upd X (2 * k) x) (tw (2 * k)) z))), (hys, .inl (cI, 40, .inl (upd (upd Y (2 * k) y) (tw (2 * k)) w)))] H := hP
        have hD : va_D A [(hm, .inr (1, [.ref hu, .ref hxs, .ref hys])), (hu, .inl (cZ, 20, .inl (fun z9 => b2i (u z9)))), (hxs, .inl (cI, 40, .inl (upd (upd X (2 * k) x) (tw (2 * k)) z))), (hys, .inl (cI, 40, .inl (upd (upd Y (2 * k) y) (tw (2 * k)) w)))] := hD
        have eqf := (show f_M_sketch u X Y k x y z w = (upd (upd X (2 * k) x) (tw (2 * k)) z, upd (upd Y (2 * k) y) (tw (2 * k)) w) from by unfold f_M_sketch; rw [if_neg c1a, if_pos c3a, if_neg c5a])
        exact rretV S hr hlk (by rw [eqf]) hP hK hD hS d_M_sketch_81
def f_M_setUsed (u : Nat → Bool) (X : Nat → Int32) (Y : Nat → Int32) (k : Nat) (now : Bool) : (Nat → Bool) := updB u k now
theorem i_M_setUsed : inV y_M_setUsed b_M_setUsed 3 (none) 2 := ⟨kM_y_M_setUsed, kV_y_M_setUsed, kI_M, kY_y_M_setUsed, by decide +kernel⟩
set_option maxHeartbeats 4000000 in
set_option maxRecDepth 100000 in
theorem c_M_setUsed (l : Launch) (D : va_G) (hm hu hxs hys : Nat) (cZ cI : ClassId) (u : Nat → Bool) (X Y : Nat → Int32) (k : Nat) (now : Bool) (sz : Nat) (hk : k < 20)  : SMv l y_M_setUsed b_M_setUsed 3 0 0 D [(hm, .inr (1, [.ref hu, .ref hxs, .ref hys])), (hu, .inl (cZ, 20, .inl (fun z9 => b2i (u z9)))), (hxs, .inl (cI, 40, .inl X)), (hys, .inl (cI, 40, .inl Y))] [(cZ, .boolean), (cI, .int)] [.ref hm, .int (nI (k)), .int (b2i (now))] sz [(hm, .inr (1, [.ref hu, .ref hxs, .ref hys])), (hu, .inl (cZ, 20, .inl (fun z9 => b2i ((f_M_setUsed u X Y k now) z9)))), (hxs, .inl (cI, 40, .inl X)), (hys, .inl (cI, 40, .inl Y))] := by
  refine sMet (Qc := fun A => sQv D [(hm, .inr (1, [.ref hu, .ref hxs, .ref hys])), (hu, .inl (cZ, 20, .inl (fun z9 => b2i ((f_M_setUsed u X Y k now) z9)))), (hxs, .inl (cI, 40, .inl X)), (hys, .inl (cI, 40, .inl Y))] [(cZ, .boolean), (cI, .int)] A) rfl (fun p e s m below meth c A S hr hlk hP hK hD hA hS ls hl => ?_) (Nat.le_of_ble_eq_true rfl)
  have hx := S.1
  have hb := S.2.1
  have hl : lv_has ls 3 [(0, .ref hm), (1, .int (nI (k))), (2, .int (b2i (now)))] := hl
  refine lv_aload_n hx hb d_M_setUsed_0 rfl (lv_at hl 0 rfl) ?_
  refine rget S hK hP 0 rfl rfl in_M 0 (by decide) kF_M_9 rfl d_M_setUsed_1 ?_
  refine lv_iload_n hx hb d_M_setUsed_4 rfl (lv_at hl 1 rfl) ?_
  refine lv_iload_n hx hb d_M_setUsed_5 rfl (lv_at hl 2 rfl) ?_
  refine rzast (j := k) (x := now) S hK hP hD hS 1 0 rfl rfl (by omega) (by first | decide | omega) d_M_setUsed_6 (fun H locs hP hD hS => ?_)
  have hP : va_P D CLS [(hm, .inr (1, [.ref hu, .ref hxs, .ref hys])), (hu, .inl (cZ, 20, .inl (fun z9 => b2i ((updB u k now) z9)))), (hxs, .inl (cI, 40, .inl X)), (hys, .inl (cI, 40, .inl Y))] H := hP
  have hD : va_D A [(hm, .inr (1, [.ref hu, .ref hxs, .ref hys])), (hu, .inl (cZ, 20, .inl (fun z9 => b2i ((updB u k now) z9)))), (hxs, .inl (cI, 40, .inl X)), (hys, .inl (cI, 40, .inl Y))] := hD
  have eqf := (show f_M_setUsed u X Y k now = (updB u k now) from rfl)
  exact rretV S hr hlk (by rw [eqf]) hP hK hD hS d_M_setUsed_7
