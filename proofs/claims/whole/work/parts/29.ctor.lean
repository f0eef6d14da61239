theorem cMet {l : Launch} {y : MethodName} {cc : ByteArray} {maxL : Nat} {ret : Option FieldType} {fr lo mc ms : Nat} {D : va_G} {ws : va_W} {tys : List (ClassId × FieldType)} {av : List Value} {sz : Nat} {X : State → Prop} {Qc : (Nat → Prop) → Array Value → State → Outcome → State → Prop} (hy : plainName y.cls = true)
    (body : ∀ (p : Program) (e : Env) (s : State) (m : MethodId) (below : List Frame) (meth : Method) (c : Code) (A : Nat → Prop), CallFix p m c cc maxL s av.toArray TBL y.cls → meth.name = y.name → meth.sig.returnType = ret → meth.locks = false → X s → va_P D CLS ws s.heap → va_K D CLS tys s → va_D A ws → (∀ q : Nat, s.heap.size ≤ q → A q) → va_S A s.heap s.heap [] → ∀ ls, lv_has ls maxL (lv_args 0 av) →
      W p l e { frames := fr, cells := mc, slots := ms, locals := lo } s m av.toArray below meth c s.heap [] 0 0 (MQ below (Qc A) av.toArray s mc ms A) (F0 m 0 ls []))
    (hlen : (lg_sl av).length ≤ maxL) : Met l y (Cond.code y cc maxL ret :: TBL) { frames := fr, cells := mc, slots := ms, locals := lo } (va_Pc av (fun U => X U ∧ U.heap.size = sz ∧ va_P D CLS ws U.heap ∧ va_K D CLS tys U ∧ va_D (fun _ => True) ws)) (Qc (va_A ws sz)) mc ms (va_A ws sz) := by
  refine Met.ofW (cc := cc) (maxL := maxL) (ret := ret) hy rfl ?_
  intro p e s m args below meth c s₁ B hml hv
  obtain ⟨rfl, hX, hsz, hP, hK, hD0⟩ := hv
  subst hsz
  have hts := atoms_spec (ws := Cond.code y cc maxL ret :: TBL) B.pre
  have hl := lv_entry av (n := maxL) hlen
  rw [lg_entry_eq]
  generalize (lg_sl av ++ List.replicate (maxL - (lg_sl av).length) Slot.unset).toArray = ls at hl ⊢
  exact body p e s m below meth c _ ⟨B.exec, B.bytes, hml, findClass_of_methodNamed B.named, fun w h => hts w (List.mem_cons_of_mem _ h)⟩ (name_of_methodNamed B.named B.method).1 B.returns B.notSynchronized hX hP hK (hD0.self (sz := s.heap.size)) (fun q h => Or.inr h) va_S.rf ls hl
theorem cls_int {D : va_G} {tys : List (ClassId × FieldType)} {s : State} (hK : va_K D CLS tys s) (i j : Nat) {cA cB : ClassId} (hi : tys[i]? = some (cA, .int)) (hj : tys[j]? = some (cB, .int)) : cA = cB := Option.some.inj ((va_nm_int (hK.2 i _ hi).2).symm.trans (va_nm_int (hK.2 j _ hj).2))
theorem cls_bool {D : va_G} {tys : List (ClassId × FieldType)} {s : State} (hK : va_K D CLS tys s) (i j : Nat) {cA cB : ClassId} (hi : tys[i]? = some (cA, .boolean)) (hj : tys[j]? = some (cB, .boolean)) : cA = cB := Option.some.inj ((va_nm_boolean (hK.2 i _ hi).2).symm.trans (va_nm_boolean (hK.2 j _ hj).2))
section CW
variable {p : Program} {l : Launch} {e : Env} {R : Room} {s : State} {m : MethodId} {args : Array Value} {below : List Frame} {meth : Method} {c : Code} {H : Heap} {locs : List Loc} {cells slots : Nat} {Q : State → Prop}
variable {cc : ByteArray} {pc nL : Nat} {ls : Array Slot} {rest st : List Value} {D : va_G} {a : Nat} {A : Nat → Prop} {H0 : Heap} {tys : List (ClassId × FieldType)} {ws : va_W} {own : String}
theorem rputF (S : CallFix p m c cc nL s args TBL own) (hin2 : meth.name = "<init>") (hK : va_K D CLS tys s) (hP : va_P D CLS ws H) (hD : va_D A ws) (hS : va_S A H0 H locs) (q0 : Nat) {C : String} {T : u_T} {N ci : Nat} {fs : List Value} (he : ws[q0]? = some (a, .inr (ci, fs))) (hc : CLS[ci]? = some (C, T, N)) (hin : ∀ w ∈ u_ws C T N, w ∈ TBL) (ty0 : Nat → FieldType) (hty : ∀ k, k < N → parseFieldDescriptor (T k).2.2.1 = some (ty0 k)) (hnm : ∀ a, a < N → ∀ b, b < N → a ≠ b → (T a).2.1 ≠ (T b).2.1) (k : Nat) (hk : k < N) {index : Nat} (hlink : Cond.fieldLink own index (T k).1 (T k).2.1 (T k).2.2.1 ∈ TBL) (hfin : (T k).2.2.2 = true) (hdecl : (T k).1 = own) {v : Value} (hn : narrow (ty0 k) v = v) (hfit : fits (ty0 k) v = true) (hl : k < fs.length) (hdg : decode cc pc = .ok (.putfield index, 3))
    (kk : ∀ (H1 : Heap) (locs1 : List Loc), va_P D CLS (ws.set q0 (a, .inr (ci, fs.set k v))) H1 → va_D A (ws.set q0 (a, .inr (ci, fs.set k v))) → va_S A H0 H1 locs1 → W p l e R s m args below meth c H1 locs1 cells slots Q (F0 m (pc + 3) ls rest)) : W p l e R s m args below meth c H locs cells slots Q (F0 m pc ls (v :: .ref a :: rest)) :=
  va_putF S.1 S.2.1 S.2.2.2.2 hin ty0 hty hnm S.2.2.2.1 hK hP hD hS q0 he hc k hk (S.2.2.2.2 _ hlink) (fun _ h => h) hfin hin2 hdecl (hty k hk) hn hfit hl hdg kk
theorem rnewI (S : CallFix p m c cc nL s args TBL own) (hK : va_K D CLS tys s) (hP : va_P D CLS ws H) (hD : va_D A ws) (hS : va_S A H0 H locs) (hA : ∀ q, H0.size ≤ q → A q) {n : Int32} (N : Nat) (hn : ¬ n < 0) (hN : n.toNatClampNeg = N) (hb : N * 4 ≤ 536870912) (hcells : cells + 1 ≤ R.cells) (hslots : slots + N ≤ R.slots) (hdg : decode cc pc = .ok (.newarray .int, 2))
    (kk : ∀ (q : Nat) (cA : ClassId) (H1 : Heap), va_K D CLS (tys ++ [(cA, .int)]) s → va_P D CLS (ws ++ [(q, .inl (cA, N, .inl (fun _ => 0)))]) H1 → va_D A (ws ++ [(q, .inl (cA, N, .inl (fun _ => 0)))]) → va_S A H0 H1 locs →
      W p l e R s m args below meth c H1 locs (cells + 1) (slots + N) Q (F0 m (pc + 2) ls (.ref q :: rest))) : W p l e R s m args below meth c H locs cells slots Q (F0 m pc ls (.int n :: rest)) :=
  va_newa (atype := .int) S.1 S.2.1 (S.2.2.2.2 _ kA_int) rfl hK hP hD hS hA (a0 := (N, .inl (fun _ => 0))) (fun _ => rfl) hn hN hb hcells hslots hdg kk
theorem rnewZ (S : CallFix p m c cc nL s args TBL own) (hK : va_K D CLS tys s) (hP : va_P D CLS ws H) (hD : va_D A ws) (hS : va_S A H0 H locs) (hA : ∀ q, H0.size ≤ q → A q) {n : Int32} (N : Nat) (hn : ¬ n < 0) (hN : n.toNatClampNeg = N) (hb : N * 1 ≤ 536870912) (hcells : cells + 1 ≤ R.cells) (hslots : slots + N ≤ R.slots) (hdg : decode cc pc = .ok (.newarray .boolean, 2))
    (kk : ∀ (q : Nat) (cA : ClassId) (H1 : Heap), va_K D CLS (tys ++ [(cA, .boolean)]) s → va_P D CLS (ws ++ [(q, .inl (cA, N, .inl (fun _ => 0)))]) H1 → va_D A (ws ++ [(q, .inl (cA, N, .inl (fun _ => 0)))]) → va_S A H0 H1 locs →
      W p l e R s m args below meth c H1 locs (cells + 1) (slots + N) Q (F0 m (pc + 2) ls (.ref q :: rest))) : W p l e R s m args below meth c H locs cells slots Q (F0 m pc ls (.int n :: rest)) :=
  va_newa (atype := .boolean) S.1 S.2.1 (S.2.2.2.2 _ kA_boolean) rfl hK hP hD hS hA (a0 := (N, .inl (fun _ => 0))) (fun _ => rfl) hn hN hb hcells hslots hdg kk
theorem robj (S : CallFix p m c cc nL s args TBL own) {index : Nat} (hlink : Cond.methodLink own index objectInit ∈ TBL) (hsz : ls.size = nL) (hdg : decode cc 1 = .ok (.invokespecial index, 3)) (hfr : 1 ≤ R.frames) (hlo : 12 ≤ R.locals) (kk : W p l e R s m args below meth c H locs 0 0 Q (F0 m 4 ls [])) : W p l e R s m args below meth c H locs 0 0 Q (F0 m 1 ls [.ref a]) :=
  W.objInit S.1 S.2.1 S.2.2.2.1 (S.2.2.2.2 _ hlink) (S.2.2.2.2 _ kM_objectInit) (S.2.2.2.2 _ kY_objectInit) rfl (by rw [S.2.2.1]; exact hsz) rfl hdg hfr hlo (W.eq (g2 := F0 m 4 ls []) rfl kk)
end CW

set_option maxHeartbeats 4000000 in
set_option maxRecDepth 100000 in
theorem c_M_init (l : Launch) (D : va_G) (hm sz : Nat) : Met l y_M_init (Cond.code y_M_init b_M_init 1 none :: TBL) { frames := 1, cells := 3, slots := 100, locals := 12 } (va_Pc [.ref hm] (fun U => True ∧ U.heap.size = sz ∧ va_P D CLS [(hm, .inr (1, [.null, .null, .null]))] U.heap ∧ va_K D CLS [] U ∧ va_D (fun _ => True) [(hm, .inr (1, [.null, .null, .null]))])) (va_Qv (fun _ : Unit => True) (fun _ t => ∃ (hu hxs hys : Nat) (cZ cI : ClassId), sB D (mapW hm hu hxs hys cZ cI (fun _ => false) (fun _ => 0) (fun _ => 0)) [(cZ, .boolean), (cI, .int)] (va_A [(hm, .inr (1, [.null, .null, .null]))] sz) t) (va_A [(hm, .inr (1, [.null, .null, .null]))] sz)) 3 100 (va_A [(hm, .inr (1, [.null, .null, .null]))] sz) := by
  refine cMet (Qc := fun A => va_Qv (fun _ : Unit => True) (fun _ t => ∃ (hu hxs hys : Nat) (cZ cI : ClassId), sB D (mapW hm hu hxs hys cZ cI (fun _ => false) (fun _ => 0) (fun _ => 0)) [(cZ, .boolean), (cI, .int)] A t) A) rfl (fun p e s m below meth c A S hin hr hlk _ hP hK hD hA hS ls hl => ?_) (Nat.le_of_ble_eq_true rfl)
  have hl : lv_has ls 1 [(0, .ref hm)] := hl
  have hx := S.1
  have hb := S.2.1
  refine lv_aload_n hx hb d_M_init_0 rfl (lv_at hl 0 rfl) ?_
  refine robj S kL_M_3 hl.1 d_M_init_1 (Nat.le_of_ble_eq_true rfl) (Nat.le_of_ble_eq_true rfl) ?_
  refine lv_aload_n hx hb d_M_init_4 rfl (lv_at hl 0 rfl) ?_
  refine lv_bipush (v := 20) hx hb d_M_init_5 (by decide) ?_
  refine rnewZ S hK hP hD hS hA 20 (by decide) (by decide) (by decide) (Nat.le_of_ble_eq_true rfl) (Nat.le_of_ble_eq_true rfl) d_M_init_7 (fun hu c_hu H hK hP hD hS => ?_)
  refine W.widen (k := 1) (n := 20) (by omega) (by omega) ?_
  have hP : va_P D CLS [(hm, .inr (1, [.null, .null, .null])), (hu, .inl (c_hu, 20, .inl (fun _ => 0)))] H := hP
  have hD : va_D A [(hm, .inr (1, [.null, .null, .null])), (hu, .inl (c_hu, 20, .inl (fun _ => 0)))] := hD
  refine rputF (v := .ref hu) S hin hK hP hD hS 0 rfl rfl in_M t_M tok_M n_M 0 (by decide) kF_M_9 rfl rfl rfl rfl (Nat.le_of_ble_eq_true rfl) d_M_init_9 (fun H locs hP hD hS => ?_)
  have hP : va_P D CLS [(hm, .inr (1, [.ref hu, .null, .null])), (hu, .inl (c_hu, 20, .inl (fun _ => 0)))] H := hP
  have hD : va_D A [(hm, .inr (1, [.ref hu, .null, .null])), (hu, .inl (c_hu, 20, .inl (fun _ => 0)))] := hD
  refine lv_aload_n hx hb d_M_init_12 rfl (lv_at hl 0 rfl) ?_
  refine lv_bipush (v := 40) hx hb d_M_init_13 (by decide) ?_
  refine rnewI S hK hP hD hS hA 40 (by decide) (by decide) (by decide) (Nat.le_of_ble_eq_true rfl) (Nat.le_of_ble_eq_true rfl) d_M_init_15 (fun hxs c_hxs H hK hP hD hS => ?_)
  refine W.widen (k := 2) (n := 60) (by omega) (by omega) ?_
  have hP : va_P D CLS [(hm, .inr (1, [.ref hu, .null, .null])), (hu, .inl (c_hu, 20, .inl (fun _ => 0))), (hxs, .inl (c_hxs, 40, .inl (fun _ => 0)))] H := hP
  have hD : va_D A [(hm, .inr (1, [.ref hu, .null, .null])), (hu, .inl (c_hu, 20, .inl (fun _ => 0))), (hxs, .inl (c_hxs, 40, .inl (fun _ => 0)))] := hD
  refine rputF (v := .ref hxs) S hin hK hP hD hS 0 rfl rfl in_M t_M tok_M n_M 1 (by decide) kF_M_15 rfl rfl rfl rfl (Nat.le_of_ble_eq_true rfl) d_M_init_17 (fun H locs hP hD hS => ?_)
  have hP : va_P D CLS [(hm, .inr (1, [.ref hu, .ref hxs, .null])), (hu, .inl (c_hu, 20, .inl (fun _ => 0))), (hxs, .inl (c_hxs, 40, .inl (fun _ => 0)))] H := hP
  have hD : va_D A [(hm, .inr (1, [.ref hu, .ref hxs, .null])), (hu, .inl (c_hu, 20, .inl (fun _ => 0))), (hxs, .inl (c_hxs, 40, .inl (fun _ => 0)))] := hD
  refine lv_aload_n hx hb d_M_init_20 rfl (lv_at hl 0 rfl) ?_
  refine lv_bipush (v := 40) hx hb d_M_init_21 (by decide) ?_
  refine rnewI S hK hP hD hS hA 40 (by decide) (by decide) (by decide) (Nat.le_of_ble_eq_true rfl) (Nat.le_of_ble_eq_true rfl) d_M_init_23 (fun hys c_hys H hK hP hD hS => ?_)
  obtain rfl : c_hxs = c_hys := cls_int hK 1 2 rfl rfl
  have hK := hK.sub (tys' := [(c_hu, .boolean), (c_hxs, .int)]) [0, 1] rfl
  refine W.widen (k := 3) (n := 100) (by omega) (by omega) ?_
  have hP : va_P D CLS [(hm, .inr (1, [.ref hu, .ref hxs, .null])), (hu, .inl (c_hu, 20, .inl (fun _ => 0))), (hxs, .inl (c_hxs, 40, .inl (fun _ => 0))), (hys, .inl (c_hxs, 40, .inl (fun _ => 0)))] H := hP
  have hD : va_D A [(hm, .inr (1, [.ref hu, .ref hxs, .null])), (hu, .inl (c_hu, 20, .inl (fun _ => 0))), (hxs, .inl (c_hxs, 40, .inl (fun _ => 0))), (hys, .inl (c_hxs, 40, .inl (fun _ => 0)))] := hD
  refine rputF (v := .ref hys) S hin hK hP hD hS 0 rfl rfl in_M t_M tok_M n_M 2 (by decide) kF_M_19 rfl rfl rfl rfl (Nat.le_of_ble_eq_true rfl) d_M_init_25 (fun H locs hP hD hS => ?_)
  have hP : va_P D CLS [(hm, .inr (1, [.ref hu, .ref hxs, .ref hys])), (hu, .inl (c_hu, 20, .inl (fun _ => 0))), (hxs, .inl (c_hxs, 40, .inl (fun _ => 0))), (hys, .inl (c_hxs, 40, .inl (fun _ => 0)))] H := hP
  have hD : va_D A [(hm, .inr (1, [.ref hu, .ref hxs, .ref hys])), (hu, .inl (c_hu, 20, .inl (fun _ => 0))), (hxs, .inl (c_hxs, 40, .inl (fun _ => 0))), (hys, .inl (c_hxs, 40, .inl (fun _ => 0)))] := hD
  have hK9 : va_K D CLS [(c_hu, .boolean), (c_hxs, .int)] s := hK.sub [0, 1] rfl
  exact W.vret hx hb hr (fun t ht hW => ⟨⟨(), rfl, trivial, hu, hxs, hys, c_hu, c_hxs, (by rw [ht]; exact hP), va_K.moved hW.alike hK9, hD⟩, hS.F ht⟩) hS.2.2 d_M_init_28 hlk
set_option maxHeartbeats 4000000 in
set_option maxRecDepth 100000 in
theorem c_R_init (l : Launch) (D : va_G) (q0 sz : Nat) : Met l y_R_init (Cond.code y_R_init b_R_init 1 none :: TBL) { frames := 1, cells := 9, slots := 1862, locals := 12 } (va_Pc [.ref q0] (fun U => True ∧ U.heap.size = sz ∧ va_P D CLS [(q0, .inr (3, [.null, .null, .null, .null, .null, .int 0, .int 0, .null, .null, .null, .null]))] U.heap ∧ va_K D CLS [] U ∧ va_D (fun _ => True) [(q0, .inr (3, [.null, .null, .null, .null, .null, .int 0, .int 0, .null, .null, .null, .null]))])) (va_Qv (fun _ : Unit => True) (fun _ t => ∃ (qu qa qb qc qd qe qf qg qh : Nat) (cZ cI : ClassId), sB D (refW q0 qu qa qb qc qd qe qf qg qh cZ cI (fun _ => false) (fun _ => 0) (fun _ => 0) (fun _ => 0) (fun _ => 0) false 0 (fun _ => 0) (fun _ => 0) (fun _ => 0) (fun _ => 0)) [(cZ, .boolean), (cI, .int)] (va_A [(q0, .inr (3, [.null, .null, .null, .null, .null, .int 0, .int 0, .null, .null, .null, .null]))] sz) t) (va_A [(q0, .inr (3, [.null, .null, .null, .null, .null, .int 0, .int 0, .null, .null, .null, .null]))] sz)) 9 1862 (va_A [(q0, .inr (3, [.null, .null, .null, .null, .null, .int 0, .int 0, .null, .null, .null, .null]))] sz) := by
  refine cMet (Qc := fun A => va_Qv (fun _ : Unit => True) (fun _ t => ∃ (qu qa qb qc qd qe qf qg qh : Nat) (cZ cI : ClassId), sB D (refW q0 qu qa qb qc qd qe qf qg qh cZ cI (fun _ => false) (fun _ => 0) (fun _ => 0) (fun _ => 0) (fun _ => 0) false 0 (fun _ => 0) (fun _ => 0) (fun _ => 0) (fun _ => 0)) [(cZ, .boolean), (cI, .int)] A t) A) rfl (fun p e s m below meth c A S hin hr hlk _ hP hK hD hA hS ls hl => ?_) (Nat.le_of_ble_eq_true rfl)
  have hl : lv_has ls 1 [(0, .ref q0)] := hl
  have hx := S.1
  have hb := S.2.1
  refine lv_aload_n hx hb d_R_init_0 rfl (lv_at hl 0 rfl) ?_
  refine robj S kL_R_1 hl.1 d_R_init_1 (Nat.le_of_ble_eq_true rfl) (Nat.le_of_ble_eq_true rfl) ?_
  refine lv_aload_n hx hb d_R_init_4 rfl (lv_at hl 0 rfl) ?_
  refine lv_bipush (v := 20) hx hb d_R_init_5 (by decide) ?_
  refine rnewZ S hK hP hD hS hA 20 (by decide) (by decide) (by decide) (Nat.le_of_ble_eq_true rfl) (Nat.le_of_ble_eq_true rfl) d_R_init_7 (fun qu c_qu H hK hP hD hS => ?_)
  refine W.widen (k := 1) (n := 20) (by omega) (by omega) ?_
  have hP : va_P D CLS [(q0, .inr (3, [.null, .null, .null, .null, .null, .int 0, .int 0, .null, .null, .null, .null])), (qu, .inl (c_qu, 20, .inl (fun _ => 0)))] H := hP
  have hD : va_D A [(q0, .inr (3, [.null, .null, .null, .null, .null, .int 0, .int 0, .null, .null, .null, .null])), (qu, .inl (c_qu, 20, .inl (fun _ => 0)))] := hD
  refine rputF (v := .ref qu) S hin hK hP hD hS 0 rfl rfl in_R t_R tok_R n_R 0 (by decide) kF_R_7 rfl rfl rfl rfl (Nat.le_of_ble_eq_true rfl) d_R_init_9 (fun H locs hP hD hS => ?_)
  have hP : va_P D CLS [(q0, .inr (3, [.ref qu, .null, .null, .null, .null, .int 0, .int 0, .null, .null, .null, .null])), (qu, .inl (c_qu, 20, .inl (fun _ => 0)))] H := hP
  have hD : va_D A [(q0, .inr (3, [.ref qu, .null, .null, .null, .null, .int 0, .int 0, .null, .null, .null, .null])), (qu, .inl (c_qu, 20, .inl (fun _ => 0)))] := hD
  refine lv_aload_n hx hb d_R_init_12 rfl (lv_at hl 0 rfl) ?_
  refine lv_bipush (v := 20) hx hb d_R_init_13 (by decide) ?_
  refine rnewI S hK hP hD hS hA 20 (by decide) (by decide) (by decide) (Nat.le_of_ble_eq_true rfl) (Nat.le_of_ble_eq_true rfl) d_R_init_15 (fun qa c_qa H hK hP hD hS => ?_)
  refine W.widen (k := 2) (n := 40) (by omega) (by omega) ?_
  have hP : va_P D CLS [(q0, .inr (3, [.ref qu, .null, .null, .null, .null, .int 0, .int 0, .null, .null, .null, .null])), (qu, .inl (c_qu, 20, .inl (fun _ => 0))), (qa, .inl (c_qa, 20, .inl (fun _ => 0)))] H := hP
  have hD : va_D A [(q0, .inr (3, [.ref qu, .null, .null, .null, .null, .int 0, .int 0, .null, .null, .null, .null])), (qu, .inl (c_qu, 20, .inl (fun _ => 0))), (qa, .inl (c_qa, 20, .inl (fun _ => 0)))] := hD
  refine rputF (v := .ref qa) S hin hK hP hD hS 0 rfl rfl in_R t_R tok_R n_R 1 (by decide) kF_R_13 rfl rfl rfl rfl (Nat.le_of_ble_eq_true rfl) d_R_init_17 (fun H locs hP hD hS => ?_)
  have hP : va_P D CLS [(q0, .inr (3, [.ref qu, .ref qa, .null, .null, .null, .int 0, .int 0, .null, .null, .null, .null])), (qu, .inl (c_qu, 20, .inl (fun _ => 0))), (qa, .inl (c_qa, 20, .inl (fun _ => 0)))] H := hP
  have hD : va_D A [(q0, .inr (3, [.ref qu, .ref qa, .null, .null, .null, .int 0, .int 0, .null, .null, .null, .null])), (qu, .inl (c_qu, 20, .inl (fun _ => 0))), (qa, .inl (c_qa, 20, .inl (fun _ => 0)))] := hD
  refine lv_aload_n hx hb d_R_init_20 rfl (lv_at hl 0 rfl) ?_
  refine lv_bipush (v := 20) hx hb d_R_init_21 (by decide) ?_
  refine rnewI S hK hP hD hS hA 20 (by decide) (by decide) (by decide) (Nat.le_of_ble_eq_true rfl) (Nat.le_of_ble_eq_true rfl) d_R_init_23 (fun qb c_qb H hK hP hD hS => ?_)
  obtain rfl : c_qa = c_qb := cls_int hK 1 2 rfl rfl
  have hK := hK.sub (tys' := [(c_qu, .boolean), (c_qa, .int)]) [0, 1] rfl
  refine W.widen (k := 3) (n := 60) (by omega) (by omega) ?_
  have hP : va_P D CLS [(q0, .inr (3, [.ref qu, .ref qa, .null, .null, .null, .int 0, .int 0, .null, .null, .null, .null])), (qu, .inl (c_qu, 20, .inl (fun _ => 0))), (qa, .inl (c_qa, 20, .inl (fun _ => 0))), (qb, .inl (c_qa, 20, .inl (fun _ => 0)))] H := hP
  have hD : va_D A [(q0, .inr (3, [.ref qu, .ref qa, .null, .null, .null, .int 0, .int 0, .null, .null, .null, .null])), (qu, .inl (c_qu, 20, .inl (fun _ => 0))), (qa, .inl (c_qa, 20, .inl (fun _ => 0))), (qb, .inl (c_qa, 20, .inl (fun _ => 0)))] := hD
  refine rputF (v := .ref qb) S hin hK hP hD hS 0 rfl rfl in_R t_R tok_R n_R 2 (by decide) kF_R_17 rfl rfl rfl rfl (Nat.le_of_ble_eq_true rfl) d_R_init_25 (fun H locs hP hD hS => ?_)
  have hP : va_P D CLS [(q0, .inr (3, [.ref qu, .ref qa, .ref qb, .null, .null, .int 0, .int 0, .null, .null, .null, .null])), (qu, .inl (c_qu, 20, .inl (fun _ => 0))), (qa, .inl (c_qa, 20, .inl (fun _ => 0))), (qb, .inl (c_qa, 20, .inl (fun _ => 0)))] H := hP
  have hD : va_D A [(q0, .inr (3, [.ref qu, .ref qa, .ref qb, .null, .null, .int 0, .int 0, .null, .null, .null, .null])), (qu, .inl (c_qu, 20, .inl (fun _ => 0))), (qa, .inl (c_qa, 20, .inl (fun _ => 0))), (qb, .inl (c_qa, 20, .inl (fun _ => 0)))] := hD
  refine lv_aload_n hx hb d_R_init_28 rfl (lv_at hl 0 rfl) ?_
  refine lv_bipush (v := 20) hx hb d_R_init_29 (by decide) ?_
  refine rnewI S hK hP hD hS hA 20 (by decide) (by decide) (by decide) (Nat.le_of_ble_eq_true rfl) (Nat.le_of_ble_eq_true rfl) d_R_init_31 (fun qc c_qc H hK hP hD hS => ?_)
  obtain rfl : c_qa = c_qc := cls_int hK 1 2 rfl rfl
  have hK := hK.sub (tys' := [(c_qu, .boolean), (c_qa, .int)]) [0, 1] rfl
  refine W.widen (k := 4) (n := 80) (by omega) (by omega) ?_
  have hP : va_P D CLS [(q0, .inr (3, [.ref qu, .ref qa, .ref qb, .null, .null, .int 0, .int 0, .null, .null, .null, .null])), (qu, .inl (c_qu, 20, .inl (fun _ => 0))), (qa, .inl (c_qa, 20, .inl (fun _ => 0))), (qb, .inl (c_qa, 20, .inl (fun _ => 0))), (qc, .inl (c_qa, 20, .inl (fun _ => 0)))] H := hP
  have hD : va_D A [(q0, .inr (3, [.ref qu, .ref qa, .ref qb, .null, .null, .int 0, .int 0, .null, .null, .null, .null])), (qu, .inl (c_qu, 20, .inl (fun _ => 0))), (qa, .inl (c_qa, 20, .inl (fun _ => 0))), (qb, .inl (c_qa, 20, .inl (fun _ => 0))), (qc, .inl (c_qa, 20, .inl (fun _ => 0)))] := hD
  refine rputF (v := .ref qc) S hin hK hP hD hS 0 rfl rfl in_R t_R tok_R n_R 3 (by decide) kF_R_20 rfl rfl rfl rfl (Nat.le_of_ble_eq_true rfl) d_R_init_33 (fun H locs hP hD hS => ?_)
  have hP : va_P D CLS [(q0, .inr (3, [.ref qu, .ref qa, .ref qb, .ref qc, .null, .int 0, .int 0, .null, .null, .null, .null])), (qu, .inl (c_qu, 20, .inl (fun _ => 0))), (qa, .inl (c_qa, 20, .inl (fun _ => 0))), (qb, .inl (c_qa, 20, .inl (fun _ => 0))), (qc, .inl (c_qa, 20, .inl (fun _ => 0)))] H := hP
  have hD : va_D A [(q0, .inr (3, [.ref qu, .ref qa, .ref qb, .ref qc, .null, .int 0, .int 0, .null, .null, .null, .null])), (qu, .inl (c_qu, 20, .inl (fun _ => 0))), (qa, .inl (c_qa, 20, .inl (fun _ => 0))), (qb, .inl (c_qa, 20, .inl (fun _ => 0))), (qc, .inl (c_qa, 20, .inl (fun _ => 0)))] := hD
  refine lv_aload_n hx hb d_R_init_36 rfl (lv_at hl 0 rfl) ?_
  refine lv_bipush (v := 20) hx hb d_R_init_37 (by decide) ?_
  refine rnewI S hK hP hD hS hA 20 (by decide) (by decide) (by decide) (Nat.le_of_ble_eq_true rfl) (Nat.le_of_ble_eq_true rfl) d_R_init_39 (fun qd c_qd H hK hP hD hS => ?_)
  obtain rfl : c_qa = c_qd := cls_int hK 1 2 rfl rfl
  have hK := hK.sub (tys' := [(c_qu, .boolean), (c_qa, .int)]) [0, 1] rfl
  refine W.widen (k := 5) (n := 100) (by omega) (by omega) ?_
  have hP : va_P D CLS [(q0, .inr (3, [.ref qu, .ref qa, .ref qb, .ref qc, .null, .int 0, .int 0, .null, .null, .null, .null])), (qu, .inl (c_qu, 20, .inl (fun _ => 0))), (qa, .inl (c_qa, 20, .inl (fun _ => 0))), (qb, .inl (c_qa, 20, .inl (fun _ => 0))), (qc, .inl (c_qa, 20, .inl (fun _ => 0))), (qd, .inl (c_qa, 20, .inl (fun _ => 0)))] H := hP
  have hD : va_D A [(q0, .inr (3, [.ref qu, .ref qa, .ref qb, .ref qc, .null, .int 0, .int 0, .null, .null, .null, .null])), (qu, .inl (c_qu, 20, .inl (fun _ => 0))), (qa, .inl (c_qa, 20, .inl (fun _ => 0))), (qb, .inl (c_qa, 20, .inl (fun _ => 0))), (qc, .inl (c_qa, 20, .inl (fun _ => 0))), (qd, .inl (c_qa, 20, .inl (fun _ => 0)))] := hD
  refine rputF (v := .ref qd) S hin hK hP hD hS 0 rfl rfl in_R t_R tok_R n_R 4 (by decide) kF_R_23 rfl rfl rfl rfl (Nat.le_of_ble_eq_true rfl) d_R_init_41 (fun H locs hP hD hS => ?_)
  have hP : va_P D CLS [(q0, .inr (3, [.ref qu, .ref qa, .ref qb, .ref qc, .ref qd, .int 0, .int 0, .null, .null, .null, .null])), (qu, .inl (c_qu, 20, .inl (fun _ => 0))), (qa, .inl (c_qa, 20, .inl (fun _ => 0))), (qb, .inl (c_qa, 20, .inl (fun _ => 0))), (qc, .inl (c_qa, 20, .inl (fun _ => 0))), (qd, .inl (c_qa, 20, .inl (fun _ => 0)))] H := hP
  have hD : va_D A [(q0, .inr (3, [.ref qu, .ref qa, .ref qb, .ref qc, .ref qd, .int 0, .int 0, .null, .null, .null, .null])), (qu, .inl (c_qu, 20, .inl (fun _ => 0))), (qa, .inl (c_qa, 20, .inl (fun _ => 0))), (qb, .inl (c_qa, 20, .inl (fun _ => 0))), (qc, .inl (c_qa, 20, .inl (fun _ => 0))), (qd, .inl (c_qa, 20, .inl (fun _ => 0)))] := hD
  refine lv_aload_n hx hb d_R_init_44 rfl (lv_at hl 0 rfl) ?_
  refine lv_bipush (v := 40) hx hb d_R_init_45 (by decide) ?_
  refine rnewI S hK hP hD hS hA 40 (by decide) (by decide) (by decide) (Nat.le_of_ble_eq_true rfl) (Nat.le_of_ble_eq_true rfl) d_R_init_47 (fun qe c_qe H hK hP hD hS => ?_)
  obtain rfl : c_qa = c_qe := cls_int hK 1 2 rfl rfl
  have hK := hK.sub (tys' := [(c_qu, .boolean), (c_qa, .int)]) [0, 1] rfl
  refine W.widen (k := 6) (n := 140) (by omega) (by omega) ?_
  have hP : va_P D CLS [(q0, .inr (3, [.ref qu, .ref qa, .ref qb, .ref qc, .ref qd, .int 0, .int 0, .null, .null, .null, .null])), (qu, .inl (c_qu, 20, .inl (fun _ => 0))), (qa, .inl (c_qa, 20, .inl (fun _ => 0))), (qb, .inl (c_qa, 20, .inl (fun _ => 0))), (qc, .inl (c_qa, 20, .inl (fun _ => 0))), (qd, .inl (c_qa, 20, .inl (fun _ => 0))), (qe, .inl (c_qa, 40, .inl (fun _ => 0)))] H := hP
  have hD : va_D A [(q0, .inr (3, [.ref qu, .ref qa, .ref qb, .ref qc, .ref qd, .int 0, .int 0, .null, .null, .null, .null])), (qu, .inl (c_qu, 20, .inl (fun _ => 0))), (qa, .inl (c_qa, 20, .inl (fun _ => 0))), (qb, .inl (c_qa, 20, .inl (fun _ => 0))), (qc, .inl (c_qa, 20, .inl (fun _ => 0))), (qd, .inl (c_qa, 20, .inl (fun _ => 0))), (qe, .inl (c_qa, 40, .inl (fun _ => 0)))] := hD
  refine rputF (v := .ref qe) S hin hK hP hD hS 0 rfl rfl in_R t_R tok_R n_R 7 (by decide) kF_R_26 rfl rfl rfl rfl (Nat.le_of_ble_eq_true rfl) d_R_init_49 (fun H locs hP hD hS => ?_)
  have hP : va_P D CLS [(q0, .inr (3, [.ref qu, .ref qa, .ref qb, .ref qc, .ref qd, .int 0, .int 0, .ref qe, .null, .null, .null])), (qu, .inl (c_qu, 20, .inl (fun _ => 0))), (qa, .inl (c_qa, 20, .inl (fun _ => 0))), (qb, .inl (c_qa, 20, .inl (fun _ => 0))), (qc, .inl (c_qa, 20, .inl (fun _ => 0))), (qd, .inl (c_qa, 20, .inl (fun _ => 0))), (qe, .inl (c_qa, 40, .inl (fun _ => 0)))] H := hP
  have hD : va_D A [(q0, .inr (3, [.ref qu, .ref qa, .ref qb, .ref qc, .ref qd, .int 0, .int 0, .ref qe, .null, .null, .null])), (qu, .inl (c_qu, 20, .inl (fun _ => 0))), (qa, .inl (c_qa, 20, .inl (fun _ => 0))), (qb, .inl (c_qa, 20, .inl (fun _ => 0))), (qc, .inl (c_qa, 20, .inl (fun _ => 0))), (qd, .inl (c_qa, 20, .inl (fun _ => 0))), (qe, .inl (c_qa, 40, .inl (fun _ => 0)))] := hD
  refine lv_aload_n hx hb d_R_init_52 rfl (lv_at hl 0 rfl) ?_
  refine lv_sipush (v := 820) hx hb d_R_init_53 (by decide) ?_
  refine rnewI S hK hP hD hS hA 820 (by decide) (by decide) (by decide) (Nat.le_of_ble_eq_true rfl) (Nat.le_of_ble_eq_true rfl) d_R_init_56 (fun qf c_qf H hK hP hD hS => ?_)
  obtain rfl : c_qa = c_qf := cls_int hK 1 2 rfl rfl
  have hK := hK.sub (tys' := [(c_qu, .boolean), (c_qa, .int)]) [0, 1] rfl
  refine W.widen (k := 7) (n := 960) (by omega) (by omega) ?_
  have hP : va_P D CLS [(q0, .inr (3, [.ref qu, .ref qa, .ref qb, .ref qc, .ref qd, .int 0, .int 0, .ref qe, .null, .null, .null])), (qu, .inl (c_qu, 20, .inl (fun _ => 0))), (qa, .inl (c_qa, 20, .inl (fun _ => 0))), (qb, .inl (c_qa, 20, .inl (fun _ => 0))), (qc, .inl (c_qa, 20, .inl (fun _ => 0))), (qd, .inl (c_qa, 20, .inl (fun _ => 0))), (qe, .inl (c_qa, 40, .inl (fun _ => 0))), (qf, .inl (c_qa, 820, .inl (fun _ => 0)))] H := hP
  have hD : va_D A [(q0, .inr (3, [.ref qu, .ref qa, .ref qb, .ref qc, .ref qd, .int 0, .int 0, .ref qe, .null, .null, .null])), (qu, .inl (c_qu, 20, .inl (fun _ => 0))), (qa, .inl (c_qa, 20, .inl (fun _ => 0))), (qb, .inl (c_qa, 20, .inl (fun _ => 0))), (qc, .inl (c_qa, 20, .inl (fun _ => 0))), (qd, .inl (c_qa, 20, .inl (fun _ => 0))), (qe, .inl (c_qa, 40, .inl (fun _ => 0))), (qf, .inl (c_qa, 820, .inl (fun _ => 0)))] := hD
  refine rputF (v := .ref qf) S hin hK hP hD hS 0 rfl rfl in_R t_R tok_R n_R 8 (by decide) kF_R_29 rfl rfl rfl rfl (Nat.le_of_ble_eq_true rfl) d_R_init_58 (fun H locs hP hD hS => ?_)
  have hP : va_P D CLS [(q0, .inr (3, [.ref qu, .ref qa, .ref qb, .ref qc, .ref qd, .int 0, .int 0, .ref qe, .ref qf, .null, .null])), (qu, .inl (c_qu, 20, .inl (fun _ => 0))), (qa, .inl (c_qa, 20, .inl (fun _ => 0))), (qb, .inl (c_qa, 20, .inl (fun _ => 0))), (qc, .inl (c_qa, 20, .inl (fun _ => 0))), (qd, .inl (c_qa, 20, .inl (fun _ => 0))), (qe, .inl (c_qa, 40, .inl (fun _ => 0))), (qf, .inl (c_qa, 820, .inl (fun _ => 0)))] H := hP
  have hD : va_D A [(q0, .inr (3, [.ref qu, .ref qa, .ref qb, .ref qc, .ref qd, .int 0, .int 0, .ref qe, .ref qf, .null, .null])), (qu, .inl (c_qu, 20, .inl (fun _ => 0))), (qa, .inl (c_qa, 20, .inl (fun _ => 0))), (qb, .inl (c_qa, 20, .inl (fun _ => 0))), (qc, .inl (c_qa, 20, .inl (fun _ => 0))), (qd, .inl (c_qa, 20, .inl (fun _ => 0))), (qe, .inl (c_qa, 40, .inl (fun _ => 0))), (qf, .inl (c_qa, 820, .inl (fun _ => 0)))] := hD
  refine lv_aload_n hx hb d_R_init_61 rfl (lv_at hl 0 rfl) ?_
  refine lv_bipush (v := 41) hx hb d_R_init_62 (by decide) ?_
  refine rnewI S hK hP hD hS hA 41 (by decide) (by decide) (by decide) (Nat.le_of_ble_eq_true rfl) (Nat.le_of_ble_eq_true rfl) d_R_init_64 (fun qg c_qg H hK hP hD hS => ?_)
  obtain rfl : c_qa = c_qg := cls_int hK 1 2 rfl rfl
  have hK := hK.sub (tys' := [(c_qu, .boolean), (c_qa, .int)]) [0, 1] rfl
  refine W.widen (k := 8) (n := 1001) (by omega) (by omega) ?_
  have hP : va_P D CLS [(q0, .inr (3, [.ref qu, .ref qa, .ref qb, .ref qc, .ref qd, .int 0, .int 0, .ref qe, .ref qf, .null, .null])), (qu, .inl (c_qu, 20, .inl (fun _ => 0))), (qa, .inl (c_qa, 20, .inl (fun _ => 0))), (qb, .inl (c_qa, 20, .inl (fun _ => 0))), (qc, .inl (c_qa, 20, .inl (fun _ => 0))), (qd, .inl (c_qa, 20, .inl (fun _ => 0))), (qe, .inl (c_qa, 40, .inl (fun _ => 0))), (qf, .inl (c_qa, 820, .inl (fun _ => 0))), (qg, .inl (c_qa, 41, .inl (fun _ => 0)))] H := hP
  have hD : va_D A [(q0, .inr (3, [.ref qu, .ref qa, .ref qb, .ref qc, .ref qd, .int 0, .int 0, .ref qe, .ref qf, .null, .null])), (qu, .inl (c_qu, 20, .inl (fun _ => 0))), (qa, .inl (c_qa, 20, .inl (fun _ => 0))), (qb, .inl (c_qa, 20, .inl (fun _ => 0))), (qc, .inl (c_qa, 20, .inl (fun _ => 0))), (qd, .inl (c_qa, 20, .inl (fun _ => 0))), (qe, .inl (c_qa, 40, .inl (fun _ => 0))), (qf, .inl (c_qa, 820, .inl (fun _ => 0))), (qg, .inl (c_qa, 41, .inl (fun _ => 0)))] := hD
  refine rputF (v := .ref qg) S hin hK hP hD hS 0 rfl rfl in_R t_R tok_R n_R 9 (by decide) kF_R_32 rfl rfl rfl rfl (Nat.le_of_ble_eq_true rfl) d_R_init_66 (fun H locs hP hD hS => ?_)
  have hP : va_P D CLS [(q0, .inr (3, [.ref qu, .ref qa, .ref qb, .ref qc, .ref qd, .int 0, .int 0, .ref qe, .ref qf, .ref qg, .null])), (qu, .inl (c_qu, 20, .inl (fun _ => 0))), (qa, .inl (c_qa, 20, .inl (fun _ => 0))), (qb, .inl (c_qa, 20, .inl (fun _ => 0))), (qc, .inl (c_qa, 20, .inl (fun _ => 0))), (qd, .inl (c_qa, 20, .inl (fun _ => 0))), (qe, .inl (c_qa, 40, .inl (fun _ => 0))), (qf, .inl (c_qa, 820, .inl (fun _ => 0))), (qg, .inl (c_qa, 41, .inl (fun _ => 0)))] H := hP
  have hD : va_D A [(q0, .inr (3, [.ref qu, .ref qa, .ref qb, .ref qc, .ref qd, .int 0, .int 0, .ref qe, .ref qf, .ref qg, .null])), (qu, .inl (c_qu, 20, .inl (fun _ => 0))), (qa, .inl (c_qa, 20, .inl (fun _ => 0))), (qb, .inl (c_qa, 20, .inl (fun _ => 0))), (qc, .inl (c_qa, 20, .inl (fun _ => 0))), (qd, .inl (c_qa, 20, .inl (fun _ => 0))), (qe, .inl (c_qa, 40, .inl (fun _ => 0))), (qf, .inl (c_qa, 820, .inl (fun _ => 0))), (qg, .inl (c_qa, 41, .inl (fun _ => 0)))] := hD
  refine lv_aload_n hx hb d_R_init_69 rfl (lv_at hl 0 rfl) ?_
  refine lv_sipush (v := 861) hx hb d_R_init_70 (by decide) ?_
  refine rnewI S hK hP hD hS hA 861 (by decide) (by decide) (by decide) (Nat.le_of_ble_eq_true rfl) (Nat.le_of_ble_eq_true rfl) d_R_init_73 (fun qh c_qh H hK hP hD hS => ?_)
  obtain rfl : c_qa = c_qh := cls_int hK 1 2 rfl rfl
  have hK := hK.sub (tys' := [(c_qu, .boolean), (c_qa, .int)]) [0, 1] rfl
  refine W.widen (k := 9) (n := 1862) (by omega) (by omega) ?_
  have hP : va_P D CLS [(q0, .inr (3, [.ref qu, .ref qa, .ref qb, .ref qc, .ref qd, .int 0, .int 0, .ref qe, .ref qf, .ref qg, .null])), (qu, .inl (c_qu, 20, .inl (fun _ => 0))), (qa, .inl (c_qa, 20, .inl (fun _ => 0))), (qb, .inl (c_qa, 20, .inl (fun _ => 0))), (qc, .inl (c_qa, 20, .inl (fun _ => 0))), (qd, .inl (c_qa, 20, .inl (fun _ => 0))), (qe, .inl (c_qa, 40, .inl (fun _ => 0))), (qf, .inl (c_qa, 820, .inl (fun _ => 0))), (qg, .inl (c_qa, 41, .inl (fun _ => 0))), (qh, .inl (c_qa, 861, .inl (fun _ => 0)))] H := hP
  have hD : va_D A [(q0, .inr (3, [.ref qu, .ref qa, .ref qb, .ref qc, .ref qd, .int 0, .int 0, .ref qe, .ref qf, .ref qg, .null])), (qu, .inl (c_qu, 20, .inl (fun _ => 0))), (qa, .inl (c_qa, 20, .inl (fun _ => 0))), (qb, .inl (c_qa, 20, .inl (fun _ => 0))), (qc, .inl (c_qa, 20, .inl (fun _ => 0))), (qd, .inl (c_qa, 20, .inl (fun _ => 0))), (qe, .inl (c_qa, 40, .inl (fun _ => 0))), (qf, .inl (c_qa, 820, .inl (fun _ => 0))), (qg, .inl (c_qa, 41, .inl (fun _ => 0))), (qh, .inl (c_qa, 861, .inl (fun _ => 0)))] := hD
  refine rputF (v := .ref qh) S hin hK hP hD hS 0 rfl rfl in_R t_R tok_R n_R 10 (by decide) kF_R_35 rfl rfl rfl rfl (Nat.le_of_ble_eq_true rfl) d_R_init_75 (fun H locs hP hD hS => ?_)
  have hP : va_P D CLS [(q0, .inr (3, [.ref qu, .ref qa, .ref qb, .ref qc, .ref qd, .int 0, .int 0, .ref qe, .ref qf, .ref qg, .ref qh])), (qu, .inl (c_qu, 20, .inl (fun _ => 0))), (qa, .inl (c_qa, 20, .inl (fun _ => 0))), (qb, .inl (c_qa, 20, .inl (fun _ => 0))), (qc, .inl (c_qa, 20, .inl (fun _ => 0))), (qd, .inl (c_qa, 20, .inl (fun _ => 0))), (qe, .inl (c_qa, 40, .inl (fun _ => 0))), (qf, .inl (c_qa, 820, .inl (fun _ => 0))), (qg, .inl (c_qa, 41, .inl (fun _ => 0))), (qh, .inl (c_qa, 861, .inl (fun _ => 0)))] H := hP
  have hD : va_D A [(q0, .inr (3, [.ref qu, .ref qa, .ref qb, .ref qc, .ref qd, .int 0, .int 0, .ref qe, .ref qf, .ref qg, .ref qh])), (qu, .inl (c_qu, 20, .inl (fun _ => 0))), (qa, .inl (c_qa, 20, .inl (fun _ => 0))), (qb, .inl (c_qa, 20, .inl (fun _ => 0))), (qc, .inl (c_qa, 20, .inl (fun _ => 0))), (qd, .inl (c_qa, 20, .inl (fun _ => 0))), (qe, .inl (c_qa, 40, .inl (fun _ => 0))), (qf, .inl (c_qa, 820, .inl (fun _ => 0))), (qg, .inl (c_qa, 41, .inl (fun _ => 0))), (qh, .inl (c_qa, 861, .inl (fun _ => 0)))] := hD
  have hK9 : va_K D CLS [(c_qu, .boolean), (c_qa, .int)] s := hK.sub [0, 1] rfl
  exact W.vret hx hb hr (fun t ht hW => ⟨⟨(), rfl, trivial, qu, qa, qb, qc, qd, qe, qf, qg, qh, c_qu, c_qa, (by rw [ht]; exact hP), va_K.moved hW.alike hK9, hD⟩, hS.F ht⟩) hS.2.2 d_R_init_78 hlk
theorem gdC {y : MethodName} {c : ByteArray} {m : Nat} {r : Option FieldType} (h : Cond.code y c m r ∈ TBL) : GoodIn TBL (Cond.code y c m r :: TBL) := by
  intro w hw
  have hm : w ∈ TBL := (List.mem_cons.mp hw).elim (fun e => e ▸ h) id
  exact ⟨hm, good_of_word (tbl_good hm)⟩
theorem cblind {X : State → Prop} {D : va_G} {ws : va_W} {tys : List (ClassId × FieldType)} {av : List Value} {sz : Nat} (hX : ∀ (U V : State), U.vm = V.vm → X U → X V) : FrameBlind (va_Pc av (fun U => X U ∧ U.heap.size = sz ∧ va_P D CLS ws U.heap ∧ va_K D CLS tys U ∧ va_D (fun _ => True) ws)) := fun a U g mk q => ⟨q.1, hX U _ rfl q.2.1, q.2.2.1, q.2.2.2.1, va_K.moved (u := U) (U := U.calling g mk a) (Vm.Alike.refl U.vm) q.2.2.2.2.1, q.2.2.2.2.2⟩
abbrev grpW (hg hl0 : Nat) (cI : ClassId) (N : Nat) (L : Nat → Nat) : va_W := [(hg, .inr (0, [.ref hl0])), (hl0, .inl (cI, N, .inl (fun z9 => nI (L z9))))]
set_option maxHeartbeats 4000000 in
set_option maxRecDepth 100000 in
theorem c_G_init (l : Launch) (D : va_G) (hg N sz : Nat) (hN : N < 2 ^ 20) : Met l y_G_init (Cond.code y_G_init b_G_init 2 none :: TBL) { frames := 1, cells := 1, slots := N, locals := 21 } (va_Pc [.ref hg, .int (nI N)] (fun U => True ∧ U.heap.size = sz ∧ va_P D CLS [(hg, .inr (0, [.null]))] U.heap ∧ va_K D CLS [] U ∧ va_D (fun _ => True) [(hg, .inr (0, [.null]))])) (va_Qv (fun _ : Unit => True) (fun _ t => ∃ (hl0 : Nat) (cI : ClassId), sB D (grpW hg hl0 cI N (f_G_scatter N (fun _ => 0))) [(cI, .int)] (va_A [(hg, .inr (0, [.null]))] sz) t) (va_A [(hg, .inr (0, [.null]))] sz)) 1 N (va_A [(hg, .inr (0, [.null]))] sz) := by
  refine cMet (Qc := fun A => va_Qv (fun _ : Unit => True) (fun _ t => ∃ (hl0 : Nat) (cI : ClassId), sB D (grpW hg hl0 cI N (f_G_scatter N (fun _ => 0))) [(cI, .int)] A t) A) rfl (fun p e s m below meth c A S hin hr hlk _ hP hK hD hA hS ls hl => ?_) (Nat.le_of_ble_eq_true rfl)
  have hl : lv_has ls 2 [(0, .ref hg), (1, .int (nI N))] := hl
  have hx := S.1
  have hb := S.2.1
  refine lv_aload_n hx hb d_G_init_0 rfl (lv_at hl 0 rfl) ?_
  refine robj S kL_G_1 hl.1 d_G_init_1 (Nat.le_of_ble_eq_true rfl) (Nat.le_of_ble_eq_true rfl) ?_
  refine lv_aload_n hx hb d_G_init_4 rfl (lv_at hl 0 rfl) ?_
  refine lv_iload_n hx hb d_G_init_5 rfl (lv_at hl 1 rfl) ?_
  refine rnewI S hK hP hD hS hA N (nI_pos (by omega)) (nI_clamp (by omega)) (by omega) (Nat.le_of_ble_eq_true rfl) (Nat.le_of_eq (Nat.zero_add N)) d_G_init_6 (fun hl0 cI H hK hP hD hS => ?_)
  refine W.widen (k := 1) (n := N) (by omega) (by omega) ?_
  have hP : va_P D CLS [(hg, .inr (0, [.null])), (hl0, .inl (cI, N, .inl (fun _ => 0)))] H := hP
  have hD : va_D A [(hg, .inr (0, [.null])), (hl0, .inl (cI, N, .inl (fun _ => 0)))] := hD
  refine rputF (v := .ref hl0) S hin hK hP hD hS 0 rfl rfl in_G t_G tok_G n_G 0 (by decide) kF_G_7 rfl rfl rfl rfl (Nat.le_of_ble_eq_true rfl) d_G_init_8 (fun H locs hP hD hS => ?_)
  have hP : va_P D CLS (grpW hg hl0 cI N (fun _ => 0)) H := hP
  have hD : va_D A (grpW hg hl0 cI N (fun _ => 0)) := hD
  refine lv_aload_n hx hb d_G_init_11 rfl (lv_at hl 0 rfl) ?_
  refine rcallVv (rest := []) (wc := grpW hg hl0 cI N (fun _ => 0)) (wr := []) (w1 := grpW hg hl0 cI N (f_G_scatter N (fun _ => 0))) S [] hK hP hD hS hA [0, 1] [] rfl rfl (by decide) rfl (by decide) (by decide) [0] rfl (c_G_scatter l D hg hl0 cI N (fun _ => 0) _ (by omega)) i_G_scatter kL_G_13 ⟨Nat.le_of_ble_eq_true rfl, Nat.le_of_ble_eq_true rfl⟩ ⟨Nat.le_refl _, Nat.le_refl _⟩ (q0 := 0) (ci := 0) rfl rfl rfl hl.1 rfl (Nat.le_of_ble_eq_true rfl) d_G_init_12 (fun H locs hP hD hS => ?_)
  exact W.vret hx hb hr (fun t ht hW => ⟨⟨(), rfl, trivial, hl0, cI, (by rw [ht]; exact hP), va_K.moved hW.alike hK, hD⟩, hS.F ht⟩) hS.2.2 d_G_init_15 hlk

set_option maxHeartbeats 4000000 in
set_option maxRecDepth 100000 in
theorem c_A_init (l : Launch) (D : va_G) (h0 sz : Nat) : Met l y_A_init (Cond.code y_A_init b_A_init 1 none :: TBL) { frames := 2, cells := 8, slots := 166, locals := 42 } (va_Pc [.ref h0] (fun U => va_Nw (.methodLinkNest R_A 11 y_M_init R_A) U ∧ U.heap.size = sz ∧ va_P D CLS [(h0, .inr (2, [.null, .null, .null]))] U.heap ∧ va_K D CLS [] U ∧ va_D (fun _ => True) [(h0, .inr (2, [.null, .null, .null]))])) (va_Qv (fun _ : Unit => True) (fun _ t => ∃ (hm hu hxs hys hg1 hl1 hg2 hl2 : Nat) (cZ cI : ClassId), sB D (atlW h0 hm hu hxs hys hg1 hl1 hg2 hl2 cZ cI (fun _ => false) (fun _ => 0) (fun _ => 0) (f_G_scatter 41 (fun _ => 0)) (f_G_scatter 20 (fun _ => 0))) [(cZ, .boolean), (cI, .int)] (va_A [(h0, .inr (2, [.null, .null, .null]))] sz) t) (va_A [(h0, .inr (2, [.null, .null, .null]))] sz)) 8 166 (va_A [(h0, .inr (2, [.null, .null, .null]))] sz) := by
  refine cMet (Qc := fun A => va_Qv (fun _ : Unit => True) (fun _ t => ∃ (hm hu hxs hys hg1 hl1 hg2 hl2 : Nat) (cZ cI : ClassId), sB D (atlW h0 hm hu hxs hys hg1 hl1 hg2 hl2 cZ cI (fun _ => false) (fun _ => 0) (fun _ => 0) (f_G_scatter 41 (fun _ => 0)) (f_G_scatter 20 (fun _ => 0))) [(cZ, .boolean), (cI, .int)] A t) A) rfl (fun p e s m below meth c A S hin hr hlk hNw hP hK hD hA hS ls hl => ?_) (Nat.le_of_ble_eq_true rfl)
  have hl : lv_has ls 1 [(0, .ref h0)] := hl
  have hx := S.1
  have hb := S.2.1
  refine lv_aload_n hx hb d_A_init_0 rfl (lv_at hl 0 rfl) ?_
  refine robj S kL_A_3 hl.1 d_A_init_1 (Nat.le_of_ble_eq_true rfl) (Nat.le_of_ble_eq_true rfl) ?_
  refine lv_aload_n hx hb d_A_init_4 rfl (lv_at hl 0 rfl) ?_
  refine va_new (ci := 1) (fs := [.null, .null, .null]) (C := R_M) (T := F_M) (N := 3) hx hb S.2.2.2.2 in_M t_M tok_M S.2.2.2.1 (S.2.2.2.2 _ kC_A_9) (S.2.2.2.2 _ kN_M) (S.2.2.2.2 _ kI_M) hK hP hD hS hA rfl (fun j hj => by rcases (show j = 0 ∨ j = 1 ∨ j = 2 by omega) with rfl | rfl | rfl <;> rfl) (Nat.le_of_ble_eq_true rfl) (Nat.le_of_ble_eq_true rfl) d_A_init_5 (fun hm H hP hD hS => ?_)
  refine W.widen (k := 1) (n := 3) (by omega) (by omega) ?_
  have hP : va_P D CLS [(h0, .inr (2, [.null, .null, .null])), (hm, .inr (1, [.null, .null, .null]))] H := hP
  have hD : va_D A [(h0, .inr (2, [.null, .null, .null])), (hm, .inr (1, [.null, .null, .null]))] := hD
  refine lv_dup hx hb d_A_init_8 rfl ?_
  have hPc := hP.sub (ws' := [(hm, .inr (1, [.null, .null, .null]))]) [1] rfl
  have hDc := hD.sub (ws' := [(hm, .inr (1, [.null, .null, .null]))]) [1] (by decide) rfl
  have hKc := hK.sub (tys' := []) [] rfl
  have hFc := va_free (wc := [(hm, .inr (1, [.null, .null, .null]))]) hD hS hA [1] rfl
  refine va_callv (va_runIN (As := []) (rest := [.ref hm, .ref h0]) S (c_M_init l D hm H.size) ⟨va_cnB 0 S.2.2.2.2 (gdC kY_y_M_init) rfl rfl rfl hNw (S.2.2.2.2 _ kI_M) (by decide +kernel) ⟨Nat.le_of_ble_eq_true rfl, Nat.le_of_ble_eq_true rfl⟩, rfl, S.2.2.2.2 _ kM_y_M_init⟩ ⟨cblind (fun _ _ _ h => h), fun U hU hW => ⟨rfl, trivial, by rw [hU], by rw [hU]; exact hPc, va_K.moved hW.alike hKc, hDc.weaken (fun _ _ _ _ => trivial)⟩⟩ rfl rfl hl.1 rfl (lv_room (Nat.le_of_ble_eq_true rfl)) d_A_init_9 ⟨Nat.le_of_ble_eq_true rfl, Nat.le_of_ble_eq_true rfl⟩) hS (fun q _ h => hFc q h) hFc (fun _ t H1 locs ht hvm _ hB hz1 hk1 hS => ?_)
  obtain ⟨hu, hxs, hys, cZ, cI, hP1, hK1, hD1⟩ := hB
  rw [ht] at hP1
  have hK := va_K.moved hvm.symm hK1
  obtain ⟨hP, hD⟩ := va_join (wr := [(h0, .inr (2, [.null, .null, .null]))]) hP hD [1] [0] rfl rfl (by decide) (by decide) hk1 hFc hP1 hD1
  generalize H1 = H at hP hS ⊢
  have hP : va_P D CLS [(h0, .inr (2, [.null, .null, .null])), (hm, .inr (1, [.ref hu, .ref hxs, .ref hys])), (hu, .inl (cZ, 20, .inl (fun z9 => b2i ((fun _ => false) z9)))), (hxs, .inl (cI, 40, .inl (fun _ => 0))), (hys, .inl (cI, 40, .inl (fun _ => 0)))] H := hP
  have hD : va_D A [(h0, .inr (2, [.null, .null, .null])), (hm, .inr (1, [.ref hu, .ref hxs, .ref hys])), (hu, .inl (cZ, 20, .inl (fun z9 => b2i ((fun _ => false) z9)))), (hxs, .inl (cI, 40, .inl (fun _ => 0))), (hys, .inl (cI, 40, .inl (fun _ => 0)))] := hD
  refine W.widen (k := 4) (n := 103) (by omega) (by omega) ?_
  refine rputF (v := .ref hm) S hin hK hP hD hS 0 rfl rfl in_A t_A tok_A n_A 0 (by decide) kF_A_12 rfl rfl rfl rfl (Nat.le_of_ble_eq_true rfl) d_A_init_12 (fun H locs hP hD hS => ?_)
  have hP : va_P D CLS [(h0, .inr (2, [.ref hm, .null, .null])), (hm, .inr (1, [.ref hu, .ref hxs, .ref hys])), (hu, .inl (cZ, 20, .inl (fun z9 => b2i ((fun _ => false) z9)))), (hxs, .inl (cI, 40, .inl (fun _ => 0))), (hys, .inl (cI, 40, .inl (fun _ => 0)))] H := hP
  have hD : va_D A [(h0, .inr (2, [.ref hm, .null, .null])), (hm, .inr (1, [.ref hu, .ref hxs, .ref hys])), (hu, .inl (cZ, 20, .inl (fun z9 => b2i ((fun _ => false) z9)))), (hxs, .inl (cI, 40, .inl (fun _ => 0))), (hys, .inl (cI, 40, .inl (fun _ => 0)))] := hD
  refine lv_aload_n hx hb d_A_init_15 rfl (lv_at hl 0 rfl) ?_
  refine va_new (ci := 0) (fs := [.null]) (C := R_G) (T := F_G) (N := 1) hx hb S.2.2.2.2 in_G t_G tok_G S.2.2.2.1 (S.2.2.2.2 _ kC_A_16) (S.2.2.2.2 _ kN_G) (S.2.2.2.2 _ kI_G) hK hP hD hS hA rfl (fun j hj => by rcases (show j = 0 by omega) with rfl; rfl) (Nat.le_of_ble_eq_true rfl) (Nat.le_of_ble_eq_true rfl) d_A_init_16 (fun hg1 H hP hD hS => ?_)
  refine W.widen (k := 5) (n := 104) (by omega) (by omega) ?_
  have hP : va_P D CLS [(h0, .inr (2, [.ref hm, .null, .null])), (hm, .inr (1, [.ref hu, .ref hxs, .ref hys])), (hu, .inl (cZ, 20, .inl (fun z9 => b2i ((fun _ => false) z9)))), (hxs, .inl (cI, 40, .inl (fun _ => 0))), (hys, .inl (cI, 40, .inl (fun _ => 0))), (hg1, .inr (0, [.null]))] H := hP
  have hD : va_D A [(h0, .inr (2, [.ref hm, .null, .null])), (hm, .inr (1, [.ref hu, .ref hxs, .ref hys])), (hu, .inl (cZ, 20, .inl (fun z9 => b2i ((fun _ => false) z9)))), (hxs, .inl (cI, 40, .inl (fun _ => 0))), (hys, .inl (cI, 40, .inl (fun _ => 0))), (hg1, .inr (0, [.null]))] := hD
  refine lv_dup hx hb d_A_init_19 rfl ?_
  refine lv_bipush (v := 41) hx hb d_A_init_20 (by decide) ?_
  have hPc := hP.sub (ws' := [(hg1, .inr (0, [.null]))]) [5] rfl
  have hDc := hD.sub (ws' := [(hg1, .inr (0, [.null]))]) [5] (by decide) rfl
  have hKc := hK.sub (tys' := []) [] rfl
  have hFc := va_free (wc := [(hg1, .inr (0, [.null]))]) hD hS hA [5] rfl
  refine va_callv (va_runI (As := [.int (nI 41)]) (rest := [.ref hg1, .ref h0]) S (c_G_init l D hg1 41 H.size (by decide)) (cwI 1 S.2.2.2.2 (gdC kY_y_G_init) rfl rfl rfl (S.2.2.2.2 _ kI_G) (S.2.2.2.2 _ kL_A_18) (S.2.2.2.2 _ kM_y_G_init) rfl (by decide +kernel) ⟨Nat.le_of_ble_eq_true rfl, Nat.le_of_ble_eq_true rfl⟩) ⟨cblind (fun _ _ _ h => h), fun U hU hW => ⟨rfl, trivial, by rw [hU], by rw [hU]; exact hPc, va_K.moved hW.alike hKc, hDc.weaken (fun _ _ _ _ => trivial)⟩⟩ rfl rfl hl.1 rfl (lv_room (Nat.le_of_ble_eq_true rfl)) d_A_init_22 ⟨Nat.le_of_ble_eq_true rfl, Nat.le_of_ble_eq_true rfl⟩) hS (fun q _ h => hFc q h) hFc (fun _ t H1 locs ht hvm _ hB hz1 hk1 hS => ?_)
  obtain ⟨hl1, cI2, hP1, hK1, hD1⟩ := hB
  rw [ht] at hP1
  have hK1 := va_K.moved hvm.symm hK1
  have hK2 := hK.app hK1
  obtain rfl : cI = cI2 := cls_int hK2 1 2 rfl rfl
  obtain ⟨hP, hD⟩ := va_join (wr := [(h0, .inr (2, [.ref hm, .null, .null])), (hm, .inr (1, [.ref hu, .ref hxs, .ref hys])), (hu, .inl (cZ, 20, .inl (fun z9 => b2i ((fun _ => false) z9)))), (hxs, .inl (cI, 40, .inl (fun _ => 0))), (hys, .inl (cI, 40, .inl (fun _ => 0)))]) hP hD [5] [0, 1, 2, 3, 4] rfl rfl (by decide) (by decide) hk1 hFc hP1 hD1
  generalize H1 = H at hP hS ⊢
  have hP : va_P D CLS [(h0, .inr (2, [.ref hm, .null, .null])), (hm, .inr (1, [.ref hu, .ref hxs, .ref hys])), (hu, .inl (cZ, 20, .inl (fun z9 => b2i ((fun _ => false) z9)))), (hxs, .inl (cI, 40, .inl (fun _ => 0))), (hys, .inl (cI, 40, .inl (fun _ => 0))), (hg1, .inr (0, [.ref hl1])), (hl1, .inl (cI, 41, .inl (fun z9 => nI (f_G_scatter 41 (fun _ => 0) z9))))] H := hP
  have hD : va_D A [(h0, .inr (2, [.ref hm, .null, .null])), (hm, .inr (1, [.ref hu, .ref hxs, .ref hys])), (hu, .inl (cZ, 20, .inl (fun z9 => b2i ((fun _ => false) z9)))), (hxs, .inl (cI, 40, .inl (fun _ => 0))), (hys, .inl (cI, 40, .inl (fun _ => 0))), (hg1, .inr (0, [.ref hl1])), (hl1, .inl (cI, 41, .inl (fun z9 => nI (f_G_scatter 41 (fun _ => 0) z9))))] := hD
  refine W.widen (k := 6) (n := 145) (by omega) (by omega) ?_
  refine rputF (v := .ref hg1) S hin hK hP hD hS 0 rfl rfl in_A t_A tok_A n_A 1 (by decide) kF_A_21 rfl rfl rfl rfl (Nat.le_of_ble_eq_true rfl) d_A_init_25 (fun H locs hP hD hS => ?_)
  have hP : va_P D CLS [(h0, .inr (2, [.ref hm, .ref hg1, .null])), (hm, .inr (1, [.ref hu, .ref hxs, .ref hys])), (hu, .inl (cZ, 20, .inl (fun z9 => b2i ((fun _ => false) z9)))), (hxs, .inl (cI, 40, .inl (fun _ => 0))), (hys, .inl (cI, 40, .inl (fun _ => 0))), (hg1, .inr (0, [.ref hl1])), (hl1, .inl (cI, 41, .inl (fun z9 => nI (f_G_scatter 41 (fun _ => 0) z9))))] H := hP
  have hD : va_D A [(h0, .inr (2, [.ref hm, .ref hg1, .null])), (hm, .inr (1, [.ref hu, .ref hxs, .ref hys])), (hu, .inl (cZ, 20, .inl (fun z9 => b2i ((fun _ => false) z9)))), (hxs, .inl (cI, 40, .inl (fun _ => 0))), (hys, .inl (cI, 40, .inl (fun _ => 0))), (hg1, .inr (0, [.ref hl1])), (hl1, .inl (cI, 41, .inl (fun z9 => nI (f_G_scatter 41 (fun _ => 0) z9))))] := hD
  refine lv_aload_n hx hb d_A_init_28 rfl (lv_at hl 0 rfl) ?_
  refine va_new (ci := 0) (fs := [.null]) (C := R_G) (T := F_G) (N := 1) hx hb S.2.2.2.2 in_G t_G tok_G S.2.2.2.1 (S.2.2.2.2 _ kC_A_16) (S.2.2.2.2 _ kN_G) (S.2.2.2.2 _ kI_G) hK hP hD hS hA rfl (fun j hj => by rcases (show j = 0 by omega) with rfl; rfl) (Nat.le_of_ble_eq_true rfl) (Nat.le_of_ble_eq_true rfl) d_A_init_29 (fun hg2 H hP hD hS => ?_)
  refine W.widen (k := 7) (n := 146) (by omega) (by omega) ?_
  have hP : va_P D CLS [(h0, .inr (2, [.ref hm, .ref hg1, .null])), (hm, .inr (1, [.ref hu, .ref hxs, .ref hys])), (hu, .inl (cZ, 20, .inl (fun z9 => b2i ((fun _ => false) z9)))), (hxs, .inl (cI, 40, .inl (fun _ => 0))), (hys, .inl (cI, 40, .inl (fun _ => 0))), (hg1, .inr (0, [.ref hl1])), (hl1, .inl (cI, 41, .inl (fun z9 => nI (f_G_scatter 41 (fun _ => 0) z9)))), (hg2, .inr (0, [.null]))] H := hP
  have hD : va_D A [(h0, .inr (2, [.ref hm, .ref hg1, .null])), (hm, .inr (1, [.ref hu, .ref hxs, .ref hys])), (hu, .inl (cZ, 20, .inl (fun z9 => b2i ((fun _ => false) z9)))), (hxs, .inl (cI, 40, .inl (fun _ => 0))), (hys, .inl (cI, 40, .inl (fun _ => 0))), (hg1, .inr (0, [.ref hl1])), (hl1, .inl (cI, 41, .inl (fun z9 => nI (f_G_scatter 41 (fun _ => 0) z9)))), (hg2, .inr (0, [.null]))] := hD
  refine lv_dup hx hb d_A_init_32 rfl ?_
  refine lv_bipush (v := 20) hx hb d_A_init_33 (by decide) ?_
  have hPc := hP.sub (ws' := [(hg2, .inr (0, [.null]))]) [7] rfl
  have hDc := hD.sub (ws' := [(hg2, .inr (0, [.null]))]) [7] (by decide) rfl
  have hKc := hK.sub (tys' := []) [] rfl
  have hFc := va_free (wc := [(hg2, .inr (0, [.null]))]) hD hS hA [7] rfl
  refine va_callv (va_runI (As := [.int (nI 20)]) (rest := [.ref hg2, .ref h0]) S (c_G_init l D hg2 20 H.size (by decide)) (cwI 1 S.2.2.2.2 (gdC kY_y_G_init) rfl rfl rfl (S.2.2.2.2 _ kI_G) (S.2.2.2.2 _ kL_A_18) (S.2.2.2.2 _ kM_y_G_init) rfl (by decide +kernel) ⟨Nat.le_of_ble_eq_true rfl, Nat.le_of_ble_eq_true rfl⟩) ⟨cblind (fun _ _ _ h => h), fun U hU hW => ⟨rfl, trivial, by rw [hU], by rw [hU]; exact hPc, va_K.moved hW.alike hKc, hDc.weaken (fun _ _ _ _ => trivial)⟩⟩ rfl rfl hl.1 rfl (lv_room (Nat.le_of_ble_eq_true rfl)) d_A_init_35 ⟨Nat.le_of_ble_eq_true rfl, Nat.le_of_ble_eq_true rfl⟩) hS (fun q _ h => hFc q h) hFc (fun _ t H1 locs ht hvm _ hB hz1 hk1 hS => ?_)
  obtain ⟨hl2, cI2, hP1, hK1, hD1⟩ := hB
  rw [ht] at hP1
  have hK1 := va_K.moved hvm.symm hK1
  have hK2 := hK.app hK1
  obtain rfl : cI = cI2 := cls_int hK2 1 2 rfl rfl
  obtain ⟨hP, hD⟩ := va_join (wr := [(h0, .inr (2, [.ref hm, .ref hg1, .null])), (hm, .inr (1, [.ref hu, .ref hxs, .ref hys])), (hu, .inl (cZ, 20, .inl (fun z9 => b2i ((fun _ => false) z9)))), (hxs, .inl (cI, 40, .inl (fun _ => 0))), (hys, .inl (cI, 40, .inl (fun _ => 0))), (hg1, .inr (0, [.ref hl1])), (hl1, .inl (cI, 41, .inl (fun z9 => nI (f_G_scatter 41 (fun _ => 0) z9))))]) hP hD [7] [0, 1, 2, 3, 4, 5, 6] rfl rfl (by decide) (by decide) hk1 hFc hP1 hD1
  generalize H1 = H at hP hS ⊢
  have hP : va_P D CLS [(h0, .inr (2, [.ref hm, .ref hg1, .null])), (hm, .inr (1, [.ref hu, .ref hxs, .ref hys])), (hu, .inl (cZ, 20, .inl (fun z9 => b2i ((fun _ => false) z9)))), (hxs, .inl (cI, 40, .inl (fun _ => 0))), (hys, .inl (cI, 40, .inl (fun _ => 0))), (hg1, .inr (0, [.ref hl1])), (hl1, .inl (cI, 41, .inl (fun z9 => nI (f_G_scatter 41 (fun _ => 0) z9)))), (hg2, .inr (0, [.ref hl2])), (hl2, .inl (cI, 20, .inl (fun z9 => nI (f_G_scatter 20 (fun _ => 0) z9))))] H := hP
  have hD : va_D A [(h0, .inr (2, [.ref hm, .ref hg1, .null])), (hm, .inr (1, [.ref hu, .ref hxs, .ref hys])), (hu, .inl (cZ, 20, .inl (fun z9 => b2i ((fun _ => false) z9)))), (hxs, .inl (cI, 40, .inl (fun _ => 0))), (hys, .inl (cI, 40, .inl (fun _ => 0))), (hg1, .inr (0, [.ref hl1])), (hl1, .inl (cI, 41, .inl (fun z9 => nI (f_G_scatter 41 (fun _ => 0) z9)))), (hg2, .inr (0, [.ref hl2])), (hl2, .inl (cI, 20, .inl (fun z9 => nI (f_G_scatter 20 (fun _ => 0) z9))))] := hD
  refine W.widen (k := 8) (n := 166) (by omega) (by omega) ?_
  refine rputF (v := .ref hg2) S hin hK hP hD hS 0 rfl rfl in_A t_A tok_A n_A 2 (by decide) kF_A_25 rfl rfl rfl rfl (Nat.le_of_ble_eq_true rfl) d_A_init_38 (fun H locs hP hD hS => ?_)
  have hP : va_P D CLS [(h0, .inr (2, [.ref hm, .ref hg1, .ref hg2])), (hm, .inr (1, [.ref hu, .ref hxs, .ref hys])), (hu, .inl (cZ, 20, .inl (fun z9 => b2i ((fun _ => false) z9)))), (hxs, .inl (cI, 40, .inl (fun _ => 0))), (hys, .inl (cI, 40, .inl (fun _ => 0))), (hg1, .inr (0, [.ref hl1])), (hl1, .inl (cI, 41, .inl (fun z9 => nI (f_G_scatter 41 (fun _ => 0) z9)))), (hg2, .inr (0, [.ref hl2])), (hl2, .inl (cI, 20, .inl (fun z9 => nI (f_G_scatter 20 (fun _ => 0) z9))))] H := hP
  have hD : va_D A [(h0, .inr (2, [.ref hm, .ref hg1, .ref hg2])), (hm, .inr (1, [.ref hu, .ref hxs, .ref hys])), (hu, .inl (cZ, 20, .inl (fun z9 => b2i ((fun _ => false) z9)))), (hxs, .inl (cI, 40, .inl (fun _ => 0))), (hys, .inl (cI, 40, .inl (fun _ => 0))), (hg1, .inr (0, [.ref hl1])), (hl1, .inl (cI, 41, .inl (fun z9 => nI (f_G_scatter 41 (fun _ => 0) z9)))), (hg2, .inr (0, [.ref hl2])), (hl2, .inl (cI, 20, .inl (fun z9 => nI (f_G_scatter 20 (fun _ => 0) z9))))] := hD
  exact W.vret hx hb hr (fun t ht hW => ⟨⟨(), rfl, trivial, hm, hu, hxs, hys, hg1, hl1, hg2, hl2, cZ, cI, (by rw [ht]; exact hP), va_K.moved hW.alike hK, hD⟩, hS.F ht⟩) hS.2.2 d_A_init_41 hlk
