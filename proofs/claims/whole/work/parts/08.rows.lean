/-! Rows of this claim, over the kit's: calls of methods that change nothing, natural numbers as ints, truth values -/
def b2i (b : Bool) : Int32 := if b then 1 else 0
theorem b2i_t : b2i true = 1 := rfl
theorem b2i_f : b2i false = 0 := rfl
theorem b2i_eq0 {b : Bool} : b2i b = 0 ↔ b = false := by cases b <;> decide
theorem b2i_ne0 {b : Bool} : ¬ b2i b = 0 ↔ b = true := by cases b <;> decide
theorem b2i_inj {a b : Bool} : b2i a = b2i b ↔ a = b := by cases a <;> cases b <;> decide
theorem b2i_nar (b : Bool) : narrow .boolean (.int (b2i b)) = .int (b2i b) := by cases b <;> rfl
theorem b2i_vnar (b : Bool) : vp_nar .boolean (b2i b) = b2i b := by cases b <;> rfl
/-- the other arrow of a segment -/
def tw (a : Nat) : Nat := if a % 2 = 0 then a + 1 else a - 1
theorem tw_lt {a : Nat} (h : a < 40) : tw a < 40 := by unfold tw; split <;> omega
theorem tw_tw (a : Nat) : tw (tw a) = a := by unfold tw; split <;> split <;> omega
theorem tw_half (a : Nat) : tw a / 2 = a / 2 := by unfold tw; split <;> omega
theorem tw_ne (a : Nat) : tw a ≠ a := by unfold tw; split <;> omega
theorem tw_even (k : Nat) : tw (2 * k) = 2 * k + 1 := by unfold tw; split <;> omega
theorem tw_odd (k : Nat) : tw (2 * k + 1) = 2 * k := by unfold tw; split <;> omega
theorem nI_xor1 : ∀ a, a < 64 → nI a ^^^ 1 = nI (tw a) := by decide +kernel
def updB (u : Nat → Bool) (k : Nat) (b : Bool) : Nat → Bool := fun j => if j = k then b else u j
def updN (u : Nat → Nat) (k : Nat) (b : Nat) : Nat → Nat := fun j => if j = k then b else u j
/-- a method that changes nothing: its start, its answer -/
def pPc (D : va_G) (ws : va_W) (tys : List (ClassId × FieldType)) (av : List Value) : Array Value → State → Prop := va_Pc av (fun U => va_P D CLS ws U.heap ∧ va_K D CLS tys U)
abbrev pQ (v : Int32) : Array Value → State → Outcome → State → Prop := vp_Si (fun r => r = v)
theorem pPc_blind {D : va_G} {ws : va_W} {tys : List (ClassId × FieldType)} {av : List Value} : FrameBlind (pPc D ws tys av) := fun a U g mk q => ⟨q.1, q.2.1, va_K.moved (u := U) (U := U.calling g mk a) (Vm.Alike.refl U.vm) q.2.2⟩
abbrev PM (l : Launch) (y : MethodName) (cc : ByteArray) (maxL : Nat) (ret : Option FieldType) (fr lo : Nat) (D : va_G) (ws : va_W) (tys : List (ClassId × FieldType)) (av : List Value) (v : Int32) : Prop :=
  Met l y (Cond.code y cc maxL ret :: TBL) { frames := fr, cells := 0, slots := 0, locals := lo } (pPc D ws tys av) (pQ v) 0 0 (fun _ => False)
abbrev inV (y : MethodName) (bytes : ByteArray) (maxL : Nat) (ret : Option FieldType) (n : Nat) : Prop :=
  Cond.instanceMethod y ∈ TBL ∧ Cond.selects y.cls y y ∈ TBL ∧ Cond.initialized y.cls ∈ TBL ∧ Cond.code y bytes maxL ret ∈ TBL ∧ (y.cls ≠ "java/lang/invoke/MethodHandle" ∧ y.cls ≠ "java/lang/invoke/VarHandle" ∧ (parseMethodDescriptor y.desc).map (fun d => d.parameters.length) = some n)
abbrev inS (y : MethodName) (bytes : ByteArray) (maxL : Nat) (ret : Option FieldType) (n : Nat) : Prop :=
  Cond.static y ∈ TBL ∧ Cond.initialized y.cls ∈ TBL ∧ Cond.code y bytes maxL ret ∈ TBL ∧ (y.cls ≠ "java/lang/invoke/MethodHandle" ∧ y.cls ≠ "java/lang/invoke/VarHandle" ∧ (parseMethodDescriptor y.desc).map (fun d => d.parameters.length) = some n)
theorem gdV {own : String} {idx : Nat} {y : MethodName} {c : ByteArray} {m : Nat} {r : Option FieldType} {n : Nat} (hl : Cond.methodLink own idx y ∈ TBL) (h : inV y c m r n) : GoodIn TBL (wsV own idx y.cls y (Cond.code y c m r :: TBL)) := by
  intro w hw
  have hm : w ∈ TBL := by
    unfold wsV at hw
    simp only [List.mem_append, List.mem_cons, List.not_mem_nil, or_false] at hw
    rcases hw with (rfl | rfl | rfl | rfl) | rfl | hw
    · exact hl
    · exact h.1
    · exact h.2.1
    · exact h.2.2.1
    · exact h.2.2.2.1
    · exact hw
  exact ⟨hm, good_of_word (tbl_good hm)⟩
theorem gdS {own : String} {idx : Nat} {y : MethodName} {c : ByteArray} {m : Nat} {r : Option FieldType} {n : Nat} (hl : Cond.methodLink own idx y ∈ TBL) (h : inS y c m r n) : GoodIn TBL (va_wsS own idx y (Cond.code y c m r :: TBL)) := by
  intro w hw
  have hm : w ∈ TBL := by
    unfold va_wsS at hw
    simp only [List.mem_append, List.mem_cons, List.not_mem_nil, or_false] at hw
    rcases hw with (rfl | rfl | rfl) | rfl | hw
    · exact hl
    · exact h.1
    · exact h.2.1
    · exact h.2.2.1
    · exact hw
  exact ⟨hm, good_of_word (tbl_good hm)⟩
theorem pMet {l : Launch} {y : MethodName} {cc : ByteArray} {maxL : Nat} {ret : Option FieldType} {fr lo : Nat} {D : va_G} {ws : va_W} {tys : List (ClassId × FieldType)} {av : List Value} {v : Int32} (hy : plainName y.cls = true)
    (body : ∀ (p : Program) (e : Env) (s : State) (m : MethodId) (below : List Frame) (meth : Method) (c : Code), CallFix p m c cc maxL s av.toArray TBL y.cls → meth.sig.returnType = ret → meth.locks = false → va_P D CLS ws s.heap → va_K D CLS tys s → ∀ ls, lv_has ls maxL (lv_args 0 av) →
      W p l e { frames := fr, cells := 0, slots := 0, locals := lo } s m av.toArray below meth c s.heap [] 0 0 (MQ below (pQ v) av.toArray s 0 0 (fun _ => False)) (F0 m 0 ls []))
    (hlen : (lg_sl av).length ≤ maxL) : PM l y cc maxL ret fr lo D ws tys av v := by
  refine Met.ofW (cc := cc) (maxL := maxL) (ret := ret) hy rfl ?_
  intro p e s m args below meth c s₁ B hml hv
  obtain ⟨rfl, hP, hK⟩ := hv
  have hts := atoms_spec (ws := Cond.code y cc maxL ret :: TBL) B.pre
  have hl := lv_entry av (n := maxL) hlen
  rw [lg_entry_eq]
  generalize (lg_sl av ++ List.replicate (maxL - (lg_sl av).length) Slot.unset).toArray = ls at hl ⊢
  exact body p e s m below meth c ⟨B.exec, B.bytes, hml, findClass_of_methodNamed B.named, fun w h => hts w (List.mem_cons_of_mem _ h)⟩ B.returns B.notSynchronized hP hK ls hl
section RW
variable {p : Program} {l : Launch} {e : Env} {R : Room} {s : State} {m : MethodId} {args : Array Value} {below : List Frame} {meth : Method} {c : Code} {H : Heap} {locs : List Loc} {cells slots : Nat} {Q : State → Prop}
variable {cc : ByteArray} {pc nL : Nat} {ls : Array Slot} {rest st : List Value} {D : va_G} {a : Nat} {tys : List (ClassId × FieldType)} {ws : va_W} {own : String}
theorem rtop {x y : Int32} (h : x = y) (kk : W p l e R s m args below meth c H locs cells slots Q (F0 m pc ls (.int y :: rest))) : W p l e R s m args below meth c H locs cells slots Q (F0 m pc ls (.int x :: rest)) := h ▸ kk
theorem rget (S : CallFix p m c cc nL s args TBL own) (hK : va_K D CLS tys s) (hP : va_P D CLS ws H) (q0 : Nat) {C : String} {T : u_T} {N ci : Nat} {fs : List Value} (he : ws[q0]? = some (a, .inr (ci, fs))) (hc : CLS[ci]? = some (C, T, N)) (hin : ∀ w ∈ u_ws C T N, w ∈ TBL) (k : Nat) (hk : k < N) {index : Nat} (hlink : Cond.fieldLink own index (T k).1 (T k).2.1 (T k).2.2.1 ∈ TBL) {v : Value} (hv : fs[k]? = some v) (hdg : decode cc pc = .ok (.getfield index, 3))
    (kk : W p l e R s m args below meth c H locs cells slots Q (F0 m (pc + 3) ls (v :: rest))) : W p l e R s m args below meth c H locs cells slots Q (F0 m pc ls (.ref a :: rest)) :=
  va_get S.1 S.2.1 S.2.2.2.2 hin S.2.2.2.1 hK hP q0 he hc k hk (S.2.2.2.2 _ hlink) (fun _ h => h) hv hdg kk
theorem riald (S : CallFix p m c cc nL s args TBL own) (hK : va_K D CLS tys s) (hP : va_P D CLS ws H) (q0 t0 : Nat) {cA : ClassId} {n j : Nat} {f : Nat → Int32} (ha : ws[q0]? = some (a, .inl (cA, n, .inl f))) (ht : tys[t0]? = some (cA, .int)) (hj : j < n) (hn : n < 2 ^ 31) (hdg : decode cc pc = .ok (.iaload, 1))
    (kk : W p l e R s m args below meth c H locs cells slots Q (F0 m (pc + 1) ls (.int (f j) :: rest))) : W p l e R s m args below meth c H locs cells slots Q (F0 m pc ls (.int (nI j) :: .ref a :: rest)) :=
  va_iald S.1 S.2.1 hK hP q0 t0 ha ht (vp_in_nI hj hn) hdg (by rw [nI_clamp (Nat.lt_trans hj hn)]; exact kk)
theorem rnald (S : CallFix p m c cc nL s args TBL own) (hK : va_K D CLS tys s) (hP : va_P D CLS ws H) (q0 t0 : Nat) {cA : ClassId} {n j : Nat} {f : Nat → Nat} (ha : ws[q0]? = some (a, .inl (cA, n, .inl (fun i => nI (f i))))) (ht : tys[t0]? = some (cA, .int)) (hj : j < n) (hn : n < 2 ^ 31) (hdg : decode cc pc = .ok (.iaload, 1))
    (kk : W p l e R s m args below meth c H locs cells slots Q (F0 m (pc + 1) ls (.int (nI (f j)) :: rest))) : W p l e R s m args below meth c H locs cells slots Q (F0 m pc ls (.int (nI j) :: .ref a :: rest)) :=
  riald S hK hP q0 t0 ha ht hj hn hdg kk
theorem rzald (S : CallFix p m c cc nL s args TBL own) (hK : va_K D CLS tys s) (hP : va_P D CLS ws H) (q0 t0 : Nat) {cA : ClassId} {n j : Nat} {f : Nat → Bool} (ha : ws[q0]? = some (a, .inl (cA, n, .inl (fun i => b2i (f i))))) (ht : tys[t0]? = some (cA, .boolean)) (hj : j < n) (hn : n < 2 ^ 31) (hdg : decode cc pc = .ok (.baload, 1))
    (kk : W p l e R s m args below meth c H locs cells slots Q (F0 m (pc + 1) ls (.int (b2i (f j)) :: rest))) : W p l e R s m args below meth c H locs cells slots Q (F0 m pc ls (.int (nI j) :: .ref a :: rest)) :=
  va_zald S.1 S.2.1 hK hP q0 t0 ha ht (vp_in_nI hj hn) hdg (by rw [nI_clamp (Nat.lt_trans hj hn)]; exact kk)
/-- a call of a method that changes nothing -/
theorem rcallV (S : CallFix p m c cc nL s args TBL own) {y : MethodName} {bytes : ByteArray} {maxL fr lo index : Nat} {ret : Option FieldType} {ws' : va_W} {tys' : List (ClassId × FieldType)} {b : Nat} {v : Int32} (As : List Value) (hK : va_K D CLS tys s) (hP : va_P D CLS ws H) (isC : List Nat) (hC : isC.filterMap (fun i => ws[i]?) = ws') (isT : List Nat) (hT : isT.filterMap (fun i => tys[i]?) = tys')
    (hM : PM l y bytes maxL ret fr lo D ws' tys' (.ref b :: As) v) (hi : inV y bytes maxL ret As.length) (hl : Cond.methodLink own index y ∈ TBL) (hR : fr + 1 ≤ R.frames ∧ 8 + (maxL + 11) + lo ≤ R.locals) (hcs : cells ≤ R.cells ∧ slots ≤ R.slots) {q0 ci : Nat} {q : vw_C} {fs : List Value} (hcl : CLS[ci]? = some q) (hq : q.1 = y.cls) (he : ws'[q0]? = some (b, .inr (ci, fs)))
    (hsz : ls.size = nL) (hst : st = As.reverse ++ .ref b :: rest) (hw : (rest.map fun v => v.category).sum ≤ 8) (hdg : decode cc pc = .ok (.invokevirtual index, 3))
    (kk : W p l e R s m args below meth c H locs cells slots Q (F0 m (pc + 3) ls (.int v :: rest))) : W p l e R s m args below meth c H locs cells slots Q (F0 m pc ls st) := by
  have hK' := hK.sub isT hT
  have hP' := hP.sub isC hC
  refine vp_callSi (W.runV (As := As) (rest := rest) (C := y.cls) S hM (cwV As.length S.2.2.2.2 (gdV hl hi) rfl rfl rfl ⟨rfl, hi.2.2.2.2⟩ hR) ⟨pPc_blind, ?_, fun U hU hW => ⟨rfl, by rw [hU]; exact hP', va_K.moved hW.alike hK'⟩⟩ rfl rfl hsz hst (lv_room hw) hdg ⟨by simpa using hcs.1, by simpa using hcs.2⟩) (fun r hr => ?_)
  · obtain ⟨cell, h1, h2, h3⟩ := va_recv hK' hP' hcl he
    exact ⟨cell, h1, h2, by rw [← hq]; exact h3⟩
  · subst hr
    exact kk
theorem rcallS (S : CallFix p m c cc nL s args TBL own) {y : MethodName} {bytes : ByteArray} {maxL fr lo index : Nat} {ret : Option FieldType} {ws' : va_W} {tys' : List (ClassId × FieldType)} {v : Int32} (As : List Value) (hK : va_K D CLS tys s) (hP : va_P D CLS ws H) (isC : List Nat) (hC : isC.filterMap (fun i => ws[i]?) = ws') (isT : List Nat) (hT : isT.filterMap (fun i => tys[i]?) = tys')
    (hM : PM l y bytes maxL ret fr lo D ws' tys' As v) (hi : inS y bytes maxL ret As.length) (ho : y.cls = own) (hl : Cond.methodLink own index y ∈ TBL) (hR : fr + 1 ≤ R.frames ∧ 8 + (maxL + 11) + lo ≤ R.locals) (hcs : cells ≤ R.cells ∧ slots ≤ R.slots)
    (hsz : ls.size = nL) (hst : st = As.reverse ++ rest) (hw : (rest.map fun v => v.category).sum ≤ 8) (hdg : decode cc pc = .ok (.invokestatic index, 3))
    (kk : W p l e R s m args below meth c H locs cells slots Q (F0 m (pc + 3) ls (.int v :: rest))) : W p l e R s m args below meth c H locs cells slots Q (F0 m pc ls st) := by
  have hK' := hK.sub isT hT
  have hP' := hP.sub isC hC
  refine vp_callSi (W.runS (As := As) (rest := rest) S hM (va_cwS As.length S.2.2.2.2 (gdS hl hi) rfl rfl rfl hi.2.2.2 hR) ⟨pPc_blind, fun U hU hW => ⟨rfl, by rw [hU]; exact hP', va_K.moved hW.alike hK'⟩⟩ rfl rfl hsz hst (lv_room hw) hdg ⟨by simpa using hcs.1, by simpa using hcs.2⟩) (fun r hr => ?_)
  subst hr
  exact kk
/-- the ends of a method that changes nothing -/
theorem rret (S : CallFix p m c cc nL s args TBL own) (hr : meth.sig.returnType = some .int) (hlk : meth.locks = false) {v w : Int32} (hv : v = w) (hdg : decode cc pc = .ok (.ireturn, 1)) : W p l e R s m args below meth c s.heap [] 0 0 (MQ below (pQ w) args s 0 0 (fun _ => False)) (F0 m pc ls [.int v]) :=
  W.iret (v := v) S.1 S.2.1 hr (fun t ht hW => ⟨v, rfl, hv, ht⟩) (fun q h => by cases h) hdg hlk
theorem rretZ (S : CallFix p m c cc nL s args TBL own) (hr : meth.sig.returnType = some .boolean) (hlk : meth.locks = false) {v w : Bool} (hv : v = w) (hdg : decode cc pc = .ok (.ireturn, 1)) : W p l e R s m args below meth c s.heap [] 0 0 (MQ below (pQ (b2i w)) args s 0 0 (fun _ => False)) (F0 m pc ls [.int (b2i v)]) :=
  W.zret (v := b2i v) S.1 S.2.1 hr (b2i_nar v) (fun t ht hW => ⟨b2i v, rfl, by rw [hv], ht⟩) (fun q h => by cases h) hdg hlk
end RW
