/-! Rows for methods that change their cells, whose addresses stay -/
def sPc (D : va_G) (ws : va_W) (tys : List (ClassId × FieldType)) (av : List Value) (sz : Nat) : Array Value → State → Prop := va_Pc av (fun U => U.heap.size = sz ∧ va_P D CLS ws U.heap ∧ va_K D CLS tys U ∧ va_D (fun _ => True) ws)
theorem sPc_blind {D : va_G} {ws : va_W} {tys : List (ClassId × FieldType)} {av : List Value} {sz : Nat} : FrameBlind (sPc D ws tys av sz) := fun a U g mk q => ⟨q.1, q.2.1, q.2.2.1, va_K.moved (u := U) (U := U.calling g mk a) (Vm.Alike.refl U.vm) q.2.2.2.1, q.2.2.2.2⟩
def sB (D : va_G) (ws : va_W) (tys : List (ClassId × FieldType)) (A : Nat → Prop) (t : State) : Prop := va_P D CLS ws t.heap ∧ va_K D CLS tys t ∧ va_D A ws
abbrev sQv (D : va_G) (ws : va_W) (tys : List (ClassId × FieldType)) (A : Nat → Prop) : Array Value → State → Outcome → State → Prop := va_Qv (fun _ : Unit => True) (fun _ => sB D ws tys A) A
abbrev sQi (v : Int32) (D : va_G) (ws : va_W) (tys : List (ClassId × FieldType)) (A : Nat → Prop) : Array Value → State → Outcome → State → Prop := va_Qi (fun r (_ : Unit) => r = v) (fun _ => sB D ws tys A) A
abbrev SMv (l : Launch) (y : MethodName) (cc : ByteArray) (maxL : Nat) (fr lo : Nat) (D : va_G) (ws : va_W) (tys : List (ClassId × FieldType)) (av : List Value) (sz : Nat) (ws' : va_W) : Prop :=
  Met l y (Cond.code y cc maxL none :: TBL) { frames := fr, cells := 0, slots := 0, locals := lo } (sPc D ws tys av sz) (sQv D ws' tys (va_A ws sz)) 0 0 (va_A ws sz)
abbrev SMi (l : Launch) (y : MethodName) (cc : ByteArray) (maxL : Nat) (ret : Option FieldType) (fr lo : Nat) (D : va_G) (ws : va_W) (tys : List (ClassId × FieldType)) (av : List Value) (sz : Nat) (v : Int32) (ws' : va_W) : Prop :=
  Met l y (Cond.code y cc maxL ret :: TBL) { frames := fr, cells := 0, slots := 0, locals := lo } (sPc D ws tys av sz) (sQi v D ws' tys (va_A ws sz)) 0 0 (va_A ws sz)
theorem sMet {l : Launch} {y : MethodName} {cc : ByteArray} {maxL : Nat} {ret : Option FieldType} {fr lo : Nat} {D : va_G} {ws : va_W} {tys : List (ClassId × FieldType)} {av : List Value} {sz : Nat} {Qc : (Nat → Prop) → Array Value → State → Outcome → State → Prop} (hy : plainName y.cls = true)
    (body : ∀ (p : Program) (e : Env) (s : State) (m : MethodId) (below : List Frame) (meth : Method) (c : Code) (A : Nat → Prop), CallFix p m c cc maxL s av.toArray TBL y.cls → meth.sig.returnType = ret → meth.locks = false → va_P D CLS ws s.heap → va_K D CLS tys s → va_D A ws → (∀ q : Nat, s.heap.size ≤ q → A q) → va_S A s.heap s.heap [] → ∀ ls, lv_has ls maxL (lv_args 0 av) →
      W p l e { frames := fr, cells := 0, slots := 0, locals := lo } s m av.toArray below meth c s.heap [] 0 0 (MQ below (Qc A) av.toArray s 0 0 A) (F0 m 0 ls []))
    (hlen : (lg_sl av).length ≤ maxL) : Met l y (Cond.code y cc maxL ret :: TBL) { frames := fr, cells := 0, slots := 0, locals := lo } (sPc D ws tys av sz) (Qc (va_A ws sz)) 0 0 (va_A ws sz) := by
  refine Met.ofW (cc := cc) (maxL := maxL) (ret := ret) hy rfl ?_
  intro p e s m args below meth c s₁ B hml hv
  obtain ⟨rfl, hsz, hP, hK, hD0⟩ := hv
  subst hsz
  have hts := atoms_spec (ws := Cond.code y cc maxL ret :: TBL) B.pre
  have hl := lv_entry av (n := maxL) hlen
  rw [lg_entry_eq]
  generalize (lg_sl av ++ List.replicate (maxL - (lg_sl av).length) Slot.unset).toArray = ls at hl ⊢
  exact body p e s m below meth c _ ⟨B.exec, B.bytes, hml, findClass_of_methodNamed B.named, fun w h => hts w (List.mem_cons_of_mem _ h)⟩ B.returns B.notSynchronized hP hK (hD0.self (sz := s.heap.size)) (fun q h => Or.inr h) va_S.rf ls hl
section SW
variable {p : Program} {l : Launch} {e : Env} {R : Room} {s : State} {m : MethodId} {args : Array Value} {below : List Frame} {meth : Method} {c : Code} {H : Heap} {locs : List Loc} {cells slots : Nat} {Q : State → Prop}
variable {cc : ByteArray} {pc nL : Nat} {ls : Array Slot} {rest st : List Value} {D : va_G} {a : Nat} {A : Nat → Prop} {H0 : Heap} {tys : List (ClassId × FieldType)} {ws : va_W} {own : String}
theorem riast (S : CallFix p m c cc nL s args TBL own) (hK : va_K D CLS tys s) (hP : va_P D CLS ws H) (hD : va_D A ws) (hS : va_S A H0 H locs) (q0 t0 : Nat) {cA : ClassId} {n j : Nat} {f : Nat → Int32} {x : Int32} (ha : ws[q0]? = some (a, .inl (cA, n, .inl f))) (ht : tys[t0]? = some (cA, .int)) (hj : j < n) (hn : n < 2 ^ 31) (hdg : decode cc pc = .ok (.iastore, 1))
    (kk : ∀ (H1 : Heap) (locs1 : List Loc), va_P D CLS (ws.set q0 (a, .inl (cA, n, .inl (upd f j x)))) H1 → va_D A (ws.set q0 (a, .inl (cA, n, .inl (upd f j x)))) → va_S A H0 H1 locs1 → W p l e R s m args below meth c H1 locs1 cells slots Q (F0 m (pc + 1) ls rest)) : W p l e R s m args below meth c H locs cells slots Q (F0 m pc ls (.int x :: .int (nI j) :: .ref a :: rest)) :=
  va_iast S.1 S.2.1 hK hP hD hS q0 t0 ha ht (vp_in_nI hj hn) hdg (by rw [nI_clamp (Nat.lt_trans hj hn)]; exact kk)
theorem rnast (S : CallFix p m c cc nL s args TBL own) (hK : va_K D CLS tys s) (hP : va_P D CLS ws H) (hD : va_D A ws) (hS : va_S A H0 H locs) (q0 t0 : Nat) {cA : ClassId} {n j : Nat} {f : Nat → Nat} {x : Nat} (ha : ws[q0]? = some (a, .inl (cA, n, .inl (fun i => nI (f i))))) (ht : tys[t0]? = some (cA, .int)) (hj : j < n) (hn : n < 2 ^ 31) (hdg : decode cc pc = .ok (.iastore, 1))
    (kk : ∀ (H1 : Heap) (locs1 : List Loc), va_P D CLS (ws.set q0 (a, .inl (cA, n, .inl (fun i => nI (updN f j x i))))) H1 → va_D A (ws.set q0 (a, .inl (cA, n, .inl (fun i => nI (updN f j x i))))) → va_S A H0 H1 locs1 → W p l e R s m args below meth c H1 locs1 cells slots Q (F0 m (pc + 1) ls rest)) : W p l e R s m args below meth c H locs cells slots Q (F0 m pc ls (.int (nI x) :: .int (nI j) :: .ref a :: rest)) := by
  have e : upd (fun i => nI (f i)) j (nI x) = fun i => nI (updN f j x i) := by
    funext i
    unfold upd updN
    split <;> rfl
  refine riast S hK hP hD hS q0 t0 ha ht hj hn hdg ?_
  rw [e]
  exact kk
theorem rzast (S : CallFix p m c cc nL s args TBL own) (hK : va_K D CLS tys s) (hP : va_P D CLS ws H) (hD : va_D A ws) (hS : va_S A H0 H locs) (q0 t0 : Nat) {cA : ClassId} {n j : Nat} {f : Nat → Bool} {x : Bool} (ha : ws[q0]? = some (a, .inl (cA, n, .inl (fun i => b2i (f i))))) (ht : tys[t0]? = some (cA, .boolean)) (hj : j < n) (hn : n < 2 ^ 31) (hdg : decode cc pc = .ok (.bastore, 1))
    (kk : ∀ (H1 : Heap) (locs1 : List Loc), va_P D CLS (ws.set q0 (a, .inl (cA, n, .inl (fun i => b2i (updB f j x i))))) H1 → va_D A (ws.set q0 (a, .inl (cA, n, .inl (fun i => b2i (updB f j x i))))) → va_S A H0 H1 locs1 → W p l e R s m args below meth c H1 locs1 cells slots Q (F0 m (pc + 1) ls rest)) : W p l e R s m args below meth c H locs cells slots Q (F0 m pc ls (.int (b2i x) :: .int (nI j) :: .ref a :: rest)) := by
  have e : upd (fun i => b2i (f i)) j (vp_nar .boolean (b2i x)) = fun i => b2i (updB f j x i) := by
    funext i
    rw [b2i_vnar]
    unfold upd updB
    split <;> rfl
  refine va_zast S.1 S.2.1 hK hP hD hS q0 t0 ha ht (vp_in_nI hj hn) hdg ?_
  rw [nI_clamp (Nat.lt_trans hj hn), e]
  exact kk
theorem ralen (S : CallFix p m c cc nL s args TBL own) (hK : va_K D CLS tys s) (hP : va_P D CLS ws H) (q0 t0 : Nat) {cA : ClassId} {x : vp_A} {n : Nat} (ha : ws[q0]? = some (a, .inl (cA, x))) {ty : FieldType} (ht : tys[t0]? = some (cA, ty)) (hv : x.1 = n) (hdg : decode cc pc = .ok (.arraylength, 1))
    (kk : W p l e R s m args below meth c H locs cells slots Q (F0 m (pc + 1) ls (.int (nI n) :: rest))) : W p l e R s m args below meth c H locs cells slots Q (F0 m pc ls (.ref a :: rest)) :=
  va_alen S.1 S.2.1 hK hP q0 t0 ha ht (by rw [hv]; rfl) hdg kk
theorem rputf (S : CallFix p m c cc nL s args TBL own) (hK : va_K D CLS tys s) (hP : va_P D CLS ws H) (hD : va_D A ws) (hS : va_S A H0 H locs) (q0 : Nat) {C : String} {T : u_T} {N ci : Nat} {fs : List Value} (he : ws[q0]? = some (a, .inr (ci, fs))) (hc : CLS[ci]? = some (C, T, N)) (hin : ∀ w ∈ u_ws C T N, w ∈ TBL) (ty0 : Nat → FieldType) (hty : ∀ k, k < N → parseFieldDescriptor (T k).2.2.1 = some (ty0 k)) (hnm : ∀ a, a < N → ∀ b, b < N → a ≠ b → (T a).2.1 ≠ (T b).2.1) (k : Nat) (hk : k < N) {index : Nat} (hlink : Cond.fieldLink own index (T k).1 (T k).2.1 (T k).2.2.1 ∈ TBL) (hfin : (T k).2.2.2 = false) {v : Value} (hn : narrow (ty0 k) v = v) (hfit : fits (ty0 k) v = true) (hl : k < fs.length) (hdg : decode cc pc = .ok (.putfield index, 3))
    (kk : ∀ (H1 : Heap) (locs1 : List Loc), va_P D CLS (ws.set q0 (a, .inr (ci, fs.set k v))) H1 → va_D A (ws.set q0 (a, .inr (ci, fs.set k v))) → va_S A H0 H1 locs1 → W p l e R s m args below meth c H1 locs1 cells slots Q (F0 m (pc + 3) ls rest)) : W p l e R s m args below meth c H locs cells slots Q (F0 m pc ls (v :: .ref a :: rest)) :=
  va_put S.1 S.2.1 S.2.2.2.2 hin ty0 hty hnm S.2.2.2.1 hK hP hD hS q0 he hc k hk (S.2.2.2.2 _ hlink) (fun _ h => h) hfin (hty k hk) hn hfit hl hdg kk
/-- a call of a void method that changes its cells -/
theorem rcallVv (S : CallFix p m c cc nL s args TBL own) {y : MethodName} {bytes : ByteArray} {maxL fr lo index : Nat} {wc wr w1 : va_W} {tys' : List (ClassId × FieldType)} {b : Nat} (As : List Value) (hK : va_K D CLS tys s) (hP : va_P D CLS ws H) (hD : va_D A ws) (hS : va_S A H0 H locs) (hA : ∀ q : Nat, H0.size ≤ q → A q) (isC isR : List Nat) (hC : isC.map (fun i => ws[i]?) = wc.map some) (hC2 : isC.filterMap (fun i => ws[i]?) = wc) (hnC : va_nd isC = true) (hRr : isR.map (fun i => ws[i]?) = wr.map some) (hnR : va_nd isR = true) (hdis : ∀ i ∈ isR, i ∉ isC) (isT : List Nat) (hT : isT.filterMap (fun i => tys[i]?) = tys')
    (hM : SMv l y bytes maxL fr lo D wc tys' (.ref b :: As) H.size w1) (hi : inV y bytes maxL none As.length) (hl : Cond.methodLink own index y ∈ TBL) (hR : fr + 1 ≤ R.frames ∧ 8 + (maxL + 11) + lo ≤ R.locals) (hcs : cells ≤ R.cells ∧ slots ≤ R.slots) {q0 ci : Nat} {q : vw_C} {fs : List Value} (hcl : CLS[ci]? = some q) (hq : q.1 = y.cls) (he : wc[q0]? = some (b, .inr (ci, fs)))
    (hsz : ls.size = nL) (hst : st = As.reverse ++ .ref b :: rest) (hw : (rest.map fun v => v.category).sum ≤ 8) (hdg : decode cc pc = .ok (.invokevirtual index, 3))
    (kk : ∀ (H1 : Heap) (locs1 : List Loc), va_P D CLS (wr ++ w1) H1 → va_D A (wr ++ w1) → va_S A H0 H1 locs1 → W p l e R s m args below meth c H1 locs1 cells slots Q (F0 m (pc + 3) ls rest)) : W p l e R s m args below meth c H locs cells slots Q (F0 m pc ls st) := by
  have hK' := hK.sub isT hT
  have hP' := hP.sub isC hC2
  have hD' := hD.sub isC hnC hC
  have hF := va_free hD hS hA isC hC
  refine va_callv (va_runV (As := As) (rest := rest) (C := y.cls) S hM (cwV As.length S.2.2.2.2 (gdV hl hi) rfl rfl rfl ⟨rfl, hi.2.2.2.2⟩ hR) ⟨sPc_blind, ?_, fun U hU hW => ⟨rfl, by rw [hU], by rw [hU]; exact hP', va_K.moved hW.alike hK', hD'.weaken (fun _ _ _ _ => trivial)⟩⟩ rfl rfl hsz hst (lv_room hw) hdg ⟨by simpa using hcs.1, by simpa using hcs.2⟩) hS (fun q _ h => hF q h) hF (fun u t H1 locs1 ht hvm hw hB hz1 hk1 hS1 => ?_)
  · obtain ⟨cell, h1, h2, h3⟩ := va_recv hK' hP' hcl he
    exact ⟨cell, h1, h2, by rw [← hq]; exact h3⟩
  · obtain ⟨hP1, hK1, hD1⟩ := hB
    rw [ht] at hP1
    obtain ⟨hP2, hD2⟩ := va_join hP hD isC isR hC hRr hnR hdis hk1 hF hP1 hD1
    exact kk H1 locs1 hP2 hD2 hS1
/-- a call of a method that changes its cells and answers an int -/
theorem rcallVi (S : CallFix p m c cc nL s args TBL own) {y : MethodName} {bytes : ByteArray} {maxL fr lo index : Nat} {ret : Option FieldType} {wc wr w1 : va_W} {tys' : List (ClassId × FieldType)} {b : Nat} {v : Int32} (As : List Value) (hK : va_K D CLS tys s) (hP : va_P D CLS ws H) (hD : va_D A ws) (hS : va_S A H0 H locs) (hA : ∀ q : Nat, H0.size ≤ q → A q) (isC isR : List Nat) (hC : isC.map (fun i => ws[i]?) = wc.map some) (hC2 : isC.filterMap (fun i => ws[i]?) = wc) (hnC : va_nd isC = true) (hRr : isR.map (fun i => ws[i]?) = wr.map some) (hnR : va_nd isR = true) (hdis : ∀ i ∈ isR, i ∉ isC) (isT : List Nat) (hT : isT.filterMap (fun i => tys[i]?) = tys')
    (hM : SMi l y bytes maxL ret fr lo D wc tys' (.ref b :: As) H.size v w1) (hi : inV y bytes maxL ret As.length) (hl : Cond.methodLink own index y ∈ TBL) (hR : fr + 1 ≤ R.frames ∧ 8 + (maxL + 11) + lo ≤ R.locals) (hcs : cells ≤ R.cells ∧ slots ≤ R.slots) {q0 ci : Nat} {q : vw_C} {fs : List Value} (hcl : CLS[ci]? = some q) (hq : q.1 = y.cls) (he : wc[q0]? = some (b, .inr (ci, fs)))
    (hsz : ls.size = nL) (hst : st = As.reverse ++ .ref b :: rest) (hw : (rest.map fun v => v.category).sum ≤ 8) (hdg : decode cc pc = .ok (.invokevirtual index, 3))
    (kk : ∀ (H1 : Heap) (locs1 : List Loc), va_P D CLS (wr ++ w1) H1 → va_D A (wr ++ w1) → va_S A H0 H1 locs1 → W p l e R s m args below meth c H1 locs1 cells slots Q (F0 m (pc + 3) ls (.int v :: rest))) : W p l e R s m args below meth c H locs cells slots Q (F0 m pc ls st) := by
  have hK' := hK.sub isT hT
  have hP' := hP.sub isC hC2
  have hD' := hD.sub isC hnC hC
  have hF := va_free hD hS hA isC hC
  refine va_calli (va_runV (As := As) (rest := rest) (C := y.cls) S hM (cwV As.length S.2.2.2.2 (gdV hl hi) rfl rfl rfl ⟨rfl, hi.2.2.2.2⟩ hR) ⟨sPc_blind, ?_, fun U hU hW => ⟨rfl, by rw [hU], by rw [hU]; exact hP', va_K.moved hW.alike hK', hD'.weaken (fun _ _ _ _ => trivial)⟩⟩ rfl rfl hsz hst (lv_room hw) hdg ⟨by simpa using hcs.1, by simpa using hcs.2⟩) hS (fun q _ h => hF q h) hF (fun r u t H1 locs1 ht hvm hw hB hz1 hk1 hS1 => ?_)
  · obtain ⟨cell, h1, h2, h3⟩ := va_recv hK' hP' hcl he
    exact ⟨cell, h1, h2, by rw [← hq]; exact h3⟩
  · obtain ⟨hP1, hK1, hD1⟩ := hB
    rw [ht] at hP1
    obtain ⟨hP2, hD2⟩ := va_join hP hD isC isR hC hRr hnR hdis hk1 hF hP1 hD1
    subst hw
    exact kk H1 locs1 hP2 hD2 hS1
/-- the ends -/
theorem rretV (S : CallFix p m c cc nL s args TBL own) (hr : meth.sig.returnType = none) (hlk : meth.locks = false) {wE : va_W} (hw : ws = wE) (hP : va_P D CLS ws H) (hK : va_K D CLS tys s) (hD : va_D A ws) (hS : va_S A s.heap H locs) (hdg : decode cc pc = .ok (.return_, 1)) : W p l e R s m args below meth c H locs 0 0 (MQ below (sQv D wE tys A) args s 0 0 A) (F0 m pc ls []) := by
  subst hw
  exact W.vret S.1 S.2.1 hr (fun t ht hW => ⟨⟨(), rfl, trivial, by rw [ht]; exact hP, va_K.moved hW.alike hK, hD⟩, hS.F ht⟩) hS.2.2 hdg hlk
theorem rretI (S : CallFix p m c cc nL s args TBL own) (hr : meth.sig.returnType = some .int) (hlk : meth.locks = false) {wE : va_W} {v vE : Int32} (hv : v = vE) (hw : ws = wE) (hP : va_P D CLS ws H) (hK : va_K D CLS tys s) (hD : va_D A ws) (hS : va_S A s.heap H locs) (hdg : decode cc pc = .ok (.ireturn, 1)) : W p l e R s m args below meth c H locs 0 0 (MQ below (sQi vE D wE tys A) args s 0 0 A) (F0 m pc ls [.int v]) := by
  subst hw
  exact W.iret (v := v) S.1 S.2.1 hr (fun t ht hW => ⟨⟨v, (), rfl, hv, by rw [ht]; exact hP, va_K.moved hW.alike hK, hD⟩, hS.F ht⟩) hS.2.2 hdg hlk
theorem rretB (S : CallFix p m c cc nL s args TBL own) (hr : meth.sig.returnType = some .boolean) (hlk : meth.locks = false) {wE : va_W} {v vE : Bool} (hv : v = vE) (hw : ws = wE) (hP : va_P D CLS ws H) (hK : va_K D CLS tys s) (hD : va_D A ws) (hS : va_S A s.heap H locs) (hdg : decode cc pc = .ok (.ireturn, 1)) : W p l e R s m args below meth c H locs 0 0 (MQ below (sQi (b2i vE) D wE tys A) args s 0 0 A) (F0 m pc ls [.int (b2i v)]) := by
  subst hw
  exact W.zret (v := b2i v) S.1 S.2.1 hr (b2i_nar v) (fun t ht hW => ⟨⟨b2i v, (), rfl, by rw [hv], by rw [ht]; exact hP, va_K.moved hW.alike hK, hD⟩, hS.F ht⟩) hS.2.2 hdg hlk
end SW
