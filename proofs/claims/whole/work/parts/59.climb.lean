/-! From above downwards: all points, all uprights -/
section CL
variable {u : Nat → Bool} {tx ty : Nat → Int} {m : Nat} {lx : Nat → Int} {N : Nat → Nat} {K : Nat → Nat → Nat} {SFn : Nat → Int → Int → Nat} {SAb : Int → Int → Nat} {R : Nat → Nat → Prop}
theorem lx_lt (hC : Cells u tx ty m lx N K) {s t : Nat} (hs : s < m) (ht : t < m) : lx s < lx t ↔ s < t := by
  rcases Nat.lt_trichotomy s t with q | q | q
  · have := hC.1 s t q ht; constructor <;> intro _ <;> omega
  · rw [q]; constructor <;> intro _ <;> omega
  · have := hC.1 t s q hs; constructor <;> intro _ <;> omega
/-- along a segment from its right end -/
theorem walk_L (hX : Ctx u tx ty m lx N K SFn SAb R) {k T t : Nat} {z : Int} (hT : T < m) (hk : k < 20) (hu : u k = true) (hf : tx (2 * k) < tx (2 * k + 1)) (eT : lx T = tx (2 * k + 1)) (et : tx (2 * k) ≤ lx t) (hz : z < Qf * ty (2 * k + 1)) (hH : HUE u tx ty m lx N K SFn R z) (hh : ∀ s, t < s → s < T → z ≤ Hh tx ty k (lx s)) :
    ∀ (d s i : Nat), s + d = T → t < s → i < N s → K s i = k → R (2 * k) (lo N K s (i + 1)) := by
  have hX' := hX
  obtain ⟨hG, hC, hSF, hSA, hE, hE1, hE2⟩ := hX
  intro d
  induction d with
  | zero =>
    intro s i hs hts hi ei
    have e : s = T := by omega
    subst e
    have hl : Lt u tx ty (lx s) (ty (2 * k + 1)) (K s i) := by rw [ei]; exact ⟨hk, hu, hf, eT.symm, rfl⟩
    have := end_R hX' hT hi hl hz hH
    rw [ei] at this; exact this
  | succ d ih =>
    intro s i hs hts hi ei
    have l1 : lx t < lx s := (lx_lt hC (by omega) (by omega)).mpr hts
    have l2 : lx s < lx T := (lx_lt hC (by omega) hT).mpr (by omega)
    obtain ⟨j, hj, ej⟩ := inst_R hG hC (t := s) (by omega) hk hu (by omega) (by omega)
    have q1 := ih (s + 1) j (by omega) (by omega) hj ej
    have q2 := through hX' (by omega) hi hj (by rw [ei, ej]) (by rw [ei]; exact HUE_up hH (hh s hts (by omega)))
    exact hE.2.2 _ _ _ q1 (hE.2.1 _ _ q2)
/-- along a segment from its left end -/
theorem walk_R (hX : Ctx u tx ty m lx N K SFn SAb R) {k T t : Nat} {z : Int} (hT : T < m) (ht : t < m) (hk : k < 20) (hu : u k = true) (hf : tx (2 * k) < tx (2 * k + 1)) (eT : lx T = tx (2 * k)) (et : lx t ≤ tx (2 * k + 1)) (hz : z < Qf * ty (2 * k)) (hH : HUE u tx ty m lx N K SFn R z) (hh : ∀ s, T < s → s < t → z ≤ Hh tx ty k (lx s)) :
    ∀ (d s i : Nat), s = T + 1 + d → s ≤ t → i < N s → K s i = k → R (2 * k) (lo N K s (i + 1)) := by
  have hX' := hX
  obtain ⟨hG, hC, hSF, hSA, hE, hE1, hE2⟩ := hX
  intro d
  induction d with
  | zero =>
    intro s i hs hts hi ei
    have e : s = T + 1 := by omega
    subst e
    have hl : Rt u tx ty (lx T) (ty (2 * k)) (K (T + 1) i) := by rw [ei]; exact ⟨hk, hu, hf, eT.symm, rfl⟩
    have := end_L hX' hT hi hl hz hH
    rw [ei] at this; exact this
  | succ d ih =>
    intro s i hs hts hi ei
    obtain ⟨s', rfl⟩ : ∃ s', s = s' + 1 := ⟨s - 1, by omega⟩
    have l1 : lx T < lx s' := (lx_lt hC hT (by omega)).mpr (by omega)
    have l2 : lx s' < lx t := (lx_lt hC (by omega) ht).mpr (by omega)
    obtain ⟨j, hj, ej⟩ := inst_L hG hC (t := s') (by omega) hk hu (by omega) (by omega)
    have q1 := ih s' j (by omega) (by omega) hj ej
    have q2 := through hX' (by omega) hj hi (by rw [ei, ej]) (by rw [ej]; exact HUE_up hH (hh s' (by omega) (by omega)))
    exact hE.2.2 _ _ _ q1 q2
/-- an upright segment, once all above is known -/
theorem step_E (hX : Ctx u tx ty m lx N K SFn SAb R) {t e : Nat} {n : Int} (ht : t < m) (hH : HUE u tx ty m lx N K SFn R (Qf * n)) (he : Up u tx ty (lx t) n e) : R (2 * e) (lo N K t (PL tx ty lx N K t (Qf * n))) ∧ R (2 * e + 1) (lo N K (t + 1) (PR tx ty lx N K t (Qf * n))) := by
  obtain ⟨hG, hC, hSF, hSA, hE, hE1, hE2⟩ := hX
  have mL := mono_L hG hC (t := t) (by omega)
  have mR := mono_R hG hC ht
  obtain ⟨y3, hy3⟩ : ∃ y3, y3 = ty (2 * e + 1) := ⟨_, rfl⟩
  have hd : Dn u tx ty (lx t) y3 e := ⟨he.1, he.2.1, he.2.2.1, he.2.2.2.1, hy3.symm⟩
  have hn3 : n < y3 := by have := he.2.2.1.2; have := he.2.2.2.2; omega
  have hz : Qf * n < Qf * y3 := Qf_lt.mpr hn3
  have btw : ∀ k, k < 20 → u k = true → flat tx k → tx (2 * k) ≤ lx t → lx t ≤ tx (2 * k + 1) → Qf * n < Hh tx ty k (lx t) → Qf * y3 ≤ Hh tx ty k (lx t) := by
    intro k hk hu fk a b q
    apply Int.not_lt.mp
    intro q2
    have hne : k ≠ e := fun z => by rw [z] at fk; have := fk.1; have := he.2.2.1.1; omega
    have ex := he.2.2.2.1
    have g := (G4 he.2.2.1.1 he.2.2.1.2 fk (hG.2.2 k e hk he.1 hu he.2.1 hne) (by omega) (by omega) (by rw [ex, he.2.2.2.2]; omega) (by rw [ex, ← hy3]; omega)).1
    rw [ex, he.2.2.2.2, ← hy3] at g
    omega
  have bL : ∀ j, j < N t → Qf * n < fL tx ty lx K t j → Qf * y3 ≤ fL tx ty lx K t j := fun j hj q => by
    obtain ⟨_, _, b1, b2, b3, b4, b5, b6⟩ := hC.at hG (s := t) (by omega) hj
    exact btw _ b1 b2 b6 (by omega) b5 q
  have bR : ∀ j, j < N (t + 1) → Qf * n < fR tx ty lx K t j → Qf * y3 ≤ fR tx ty lx K t j := fun j hj q => by
    obtain ⟨_, _, b1, b2, b3, b4, b5, b6⟩ := hC.at hG (s := t + 1) (by omega) hj
    rw [show t + 1 - 1 = t by omega] at b3 b4
    exact btw _ b1 b2 b6 b3 (by omega) q
  obtain ⟨dd1, dd2⟩ := Dn_dir hd
  have qe := hE1 _ hd.at.1 hd.at.2.1
  rw [dd1] at qe
  have wd := dir_w hG hd.at.1
  constructor
  · by_cases hLt : ∃ k, Lt u tx ty (lx t) y3 k
    · obtain ⟨k0, hk0⟩ := hLt
      obtain ⟨i0, hi0, _, e0⟩ := place_L hG hC ht hk0
      obtain ⟨a1, a2, a3⟩ := cp_first mL hz bL hi0 e0
      have hk := left_at hG hC ht a1 hd.at a2
      have hlow : ∀ j, Lt u tx ty (lx t) y3 j → gr tx ty j ≤ gr tx ty (K t (PL tx ty lx N K t (Qf * n))) := by
        intro j hj
        obtain ⟨i, hi, ei, fi⟩ := place_L hG hC ht hj
        obtain ⟨_, _, b3⟩ := cp_first mL hz bL hi fi
        rw [← ei]; exact (slope_Lp hG hC ht a1 hi (by rw [fi]; exact a2)).1 b3
      have q := hE1 _ hk.at.1 hk.at.2.1
      have ef := F_L2 hG hSF hk hlow hd
      rw [ef] at q
      rw [show lo N K t (PL tx ty lx N K t (Qf * n)) = _ from lo_in a1]
      exact hE.2.1 _ _ q
    · have nL : ∀ i, ¬ Lt u tx ty (lx t) y3 i := fun i hi => hLt ⟨i, hi⟩
      have same : PL tx ty lx N K t (Qf * y3) = PL tx ty lx N K t (Qf * n) := cp_same mL (by omega) (fun j hj q => by
        have p := bL j hj q
        rcases Int.lt_or_le (Qf * y3) (fL tx ty lx K t j) with z | z
        · exact z
        · exact absurd (left_at hG hC ht hj hd.at (by omega)) (nL _))
      rw [← same]
      by_cases hU : ∃ e, Up u tx ty (lx t) y3 e
      · obtain ⟨f, hf⟩ := hU
        have q1 := (hH.2 t f y3 ht hz hf).1
        have q2 := hE1 _ hf.at.1 hf.at.2.1
        obtain ⟨d1, d2⟩ := Up_dir hf
        rw [d1, F_U2 (k := 0) hG hSF hf.at d2 (dir_w hG hf.at.1) nL hd] at q2
        exact hE.2.2 _ _ _ (hE.2.1 _ _ q2) q1
      · have q1 := (hH.1 t y3 _ ht hz hd.at (fun e he => hU ⟨e, he⟩)).1
        rw [F_U2 (k := 0) hG hSF hd.at (by decide) w200.1 nL hd] at q1
        exact q1
  · by_cases hRt : ∃ k, Rt u tx ty (lx t) y3 k
    · obtain ⟨k0, hk0⟩ := hRt
      obtain ⟨i0, hi0, _, e0⟩ := place_R hG hC ht hk0
      obtain ⟨a1, a2, a3⟩ := cp_first mR hz bR hi0 e0
      have hk := right_at hG hC ht a1 hd.at a2
      have hlow : ∀ j, Rt u tx ty (lx t) y3 j → gr tx ty (K (t + 1) (PR tx ty lx N K t (Qf * n))) ≤ gr tx ty j := by
        intro j hj
        obtain ⟨i, hi, ei, fi⟩ := place_R hG hC ht hj
        obtain ⟨_, _, b3⟩ := cp_first mR hz bR hi fi
        rw [← ei]; exact (slope_Rp hG hC ht a1 hi (by rw [fi]; exact a2)).1 b3
      rw [F_D1 (k := 0) hG hSF hd.at dd2 wd hk hlow] at qe
      rw [show lo N K (t + 1) (PR tx ty lx N K t (Qf * n)) = _ from lo_in a1]
      exact qe
    · have nR : ∀ i, ¬ Rt u tx ty (lx t) y3 i := fun i hi => hRt ⟨i, hi⟩
      have same : PR tx ty lx N K t (Qf * y3) = PR tx ty lx N K t (Qf * n) := cp_same mR (by omega) (fun j hj q => by
        have p := bR j hj q
        rcases Int.lt_or_le (Qf * y3) (fR tx ty lx K t j) with z | z
        · exact z
        · exact absurd (right_at hG hC ht hj hd.at (by omega)) (nR _))
      rw [← same]
      by_cases hU : ∃ e, Up u tx ty (lx t) y3 e
      · obtain ⟨f, hf⟩ := hU
        have q1 := (hH.2 t f y3 ht hz hf).2
        rw [F_D2 (k := 0) hG hSF hd.at dd2 wd nR hf] at qe
        exact hE.2.2 _ _ _ qe q1
      · have nU : ∀ e, ¬ Up u tx ty (lx t) y3 e := fun e he => hU ⟨e, he⟩
        have q1 := (hH.1 t y3 _ ht hz hd.at nU).2
        by_cases hLt : ∃ k, Lt u tx ty (lx t) y3 k
        · obtain ⟨j, hj, hm⟩ := ex_hiL hLt
          rw [F_U1 (k := 0) hG hSF hd.at (by decide) w200.1 hj hm] at q1
          rw [F_D3 (k := 0) hG hSF hd.at dd2 wd nR nU hj hm] at qe
          exact hE.2.2 _ _ _ qe q1
        · have nL : ∀ i, ¬ Lt u tx ty (lx t) y3 i := fun i hi => hLt ⟨i, hi⟩
          rw [F_U2 (k := 0) hG hSF hd.at (by decide) w200.1 nL hd] at q1
          rw [F_D4 (k := 0) hG hSF hd.at dd2 wd nR nU nL hd] at qe
          exact hE.2.2 _ _ _ qe q1
/-- no upright stands just above a point from which none rises -/
theorem free_at (hG : Geo u tx ty) {t w : Nat} {n : Int} (hw : At u tx ty (lx t) n w) (nU : ∀ e, ¬ Up u tx ty (lx t) n e) : freeA u tx ty lx t (Qf * n) := by
  intro e a b c d ⟨q1, q2⟩
  have q1 := Qf_le.mp q1
  have q2 := Qf_lt.mp q2
  have hlt : ty (2 * e) < ty (2 * e + 1) := by omega
  by_cases h : ty (2 * e) = n
  · exact nU e ⟨a, b, ⟨c, hlt⟩, d, h⟩
  · have hins : ins tx ty e (lx t) n := (ins_up c hlt _ _).mpr ⟨d.symm, by omega, q2⟩
    have hne : w / 2 ≠ e := by
      intro z
      rcases (show w = 2 * (w / 2) ∨ w = 2 * (w / 2) + 1 by omega) with q | q
      · have := hw.2.2.2; rw [q, z] at this; omega
      · have := hw.2.2.2; rw [q, z] at this; omega
    have hm := hG.2.2 e (w / 2) a (by have := hw.1; omega) b hw.2.1 (fun z => hne z.symm)
    rcases (show w = 2 * (w / 2) ∨ w = 2 * (w / 2) + 1 by omega) with q | q
    · refine hm (Or.inr (Or.inl (Or.inl ?_))); rw [← q, hw.2.2.1, hw.2.2.2]; exact hins
    · refine hm (Or.inr (Or.inl (Or.inr ?_))); rw [← q, hw.2.2.1, hw.2.2.2]; exact hins
theorem gr_sign {k : Nat} (hk : flat tx k) : (0 < gr tx ty k ↔ ty (2 * k) < ty (2 * k + 1)) ∧ (gr tx ty k < 0 ↔ ty (2 * k + 1) < ty (2 * k)) := by
  have e := gr_w (ty := ty) hk
  have w : 0 < tx (2 * k + 1) - tx (2 * k) := by have := hk.1; omega
  constructor
  · rw [← mp_pos w, e, mp_pos Qf_pos]; omega
  · rw [← mp_neg w, e, mp_neg Qf_pos]; omega
/-- a point, once all above is known -/
theorem step_U (hX : Ctx u tx ty m lx N K SFn SAb R) {t w : Nat} {n : Int} (ht : t < m) (hH : HUE u tx ty m lx N K SFn R (Qf * n)) (hw : At u tx ty (lx t) n w) (nU : ∀ e, ¬ Up u tx ty (lx t) n e) : R (SFn w 0 1) (lo N K t (PL tx ty lx N K t (Qf * n))) ∧ R (SFn w 0 1) (lo N K (t + 1) (PR tx ty lx N K t (Qf * n))) := by
  have hX' := hX
  obtain ⟨hG, hC, hSF, hSA, hE, hE1, hE2⟩ := hX
  have mL := mono_L hG hC (t := t) (by omega)
  have mR := mono_R hG hC ht
  obtain ⟨M1, M2⟩ := lift_M hX' ht hH (free_at hG hw nU)
  have toR : R (SFn w 0 1) (lo N K (t + 1) (PR tx ty lx N K t (Qf * n))) → R (SFn w 0 1) (lo N K t (PL tx ty lx N K t (Qf * n))) ∧ R (SFn w 0 1) (lo N K (t + 1) (PR tx ty lx N K t (Qf * n))) := fun q => ⟨hE.2.2 _ _ _ q (hE.2.1 _ _ M1), q⟩
  have toL : R (SFn w 0 1) (lo N K t (PL tx ty lx N K t (Qf * n))) → R (SFn w 0 1) (lo N K t (PL tx ty lx N K t (Qf * n))) ∧ R (SFn w 0 1) (lo N K (t + 1) (PR tx ty lx N K t (Qf * n))) := fun q => ⟨q, hE.2.2 _ _ _ q M1⟩
  by_cases hpk : ∀ c, c < 40 → u (c / 2) = true → tx c = tx w → ty c = ty w → ty (tw c) - ty c ≤ 0
  · have q := hE2 w hw.1 hw.2.1 hpk
    have bw := hG.2.1 w hw.1
    rw [hw.2.2.1, hw.2.2.2] at q bw
    exact toR (hE.2.2 _ _ _ q (hE.2.1 _ _ (M2 n rfl bw.1 bw.2)))
  · by_cases hA : ∃ k, Rt u tx ty (lx t) n k ∧ ty (2 * k) < ty (2 * k + 1)
    · obtain ⟨k1, hk1, hr1⟩ := hA
      obtain ⟨k, hk, hh⟩ := ex_hiR ⟨k1, hk1⟩
      have fk := hG.flat hk.1 hk.2.2.1
      have f1 := hG.flat hk1.1 hk1.2.2.1
      have g0 : 0 < gr tx ty k := by have := (gr_sign (ty := ty) f1).1.mpr hr1; have := hh k1 hk1; omega
      have hr := (gr_sign (ty := ty) fk).1.mp g0
      have q1 := hE1 _ hk.at.1 hk.at.2.1
      rw [nx_hiR hG hSF hk hh nU hw] at q1
      obtain ⟨T, hT, eT⟩ := (hC.2.1 k hk.1 hk.2.1).2
      have htT : t < T := (lx_lt hC ht hT).mp (by have := hk.2.2.1; have := hk.2.2.2.1; omega)
      obtain ⟨i, hi, ei, fi⟩ := place_R hG hC ht hk
      have wk := walk_L hX' (z := Qf * n) (t := t) hT hk.1 hk.2.1 hk.2.2.1 eT (by have := hk.2.2.2.1; omega) (Qf_lt.mpr (by have := hk.2.2.2.2; omega)) hH (fun s h1 h2 => by
        have e1 := Hh_diff tx ty k (lx t) (lx s)
        have l1 := (lx_lt hC ht (show s < m by omega)).mpr h1
        have p := Int.mul_pos g0 (show 0 < lx s - lx t by omega)
        have := hk.h
        omega) (T - (t + 1)) (t + 1) i (by omega) (by omega) hi ei
      have hP : PR tx ty lx N K t (Qf * n) = i + 1 := cp_eq mR (by omega) (fun j hj => by
          rcases Nat.lt_or_ge j i with z | z
          · have := mR j i z hi; omega
          · rw [show j = i by omega, fi]; exact Int.le_refl _) (fun j h1 h2 => by
          have p1 := mR i j (by omega) h2
          have p2 : fR tx ty lx K t j ≠ Qf * n := by
            intro e
            have hj := right_at hG hC ht h2 hw e
            have s1 := (slope_Rp hG hC ht hi h2 (by rw [fi, e])).2 (by omega)
            have := hh _ hj
            rw [ei] at s1
            omega
          omega)
      rw [hP]
      have wk2 : R (SFn w 0 1) (lo N K (t + 1) (i + 1)) := hE.2.2 _ _ _ (hE.2.1 _ _ q1) wk
      rw [hP] at toR
      exact toR wk2
    · -- then one rises to the left
      have hB : ∃ k, Lt u tx ty (lx t) n k ∧ ty (2 * k + 1) < ty (2 * k) := by
        apply Classical.byContradiction
        intro hno
        apply hpk
        intro c hc hu h1 h2
        have hcc : At u tx ty (lx t) n c := ⟨hc, hu, h1.trans hw.2.2.1, h2.trans hw.2.2.2⟩
        rcases arrow_kind hG hc hu with ⟨k, rfl, hk⟩ | ⟨k, rfl, hk⟩ | ⟨k, rfl, hk⟩ | ⟨k, rfl, hk⟩ <;> rw [hcc.2.2.1, hcc.2.2.2] at hk
        · rw [tw_even]; apply Int.not_lt.mp; intro q; exact hA ⟨k, hk, by omega⟩
        · rw [tw_odd]; apply Int.not_lt.mp; intro q; exact hno ⟨k, hk, by omega⟩
        · exact absurd hk (nU k)
        · have := Dn_dir hk; omega
      obtain ⟨k1, hk1, hr1⟩ := hB
      obtain ⟨k, hk, hh⟩ := ex_hiL ⟨k1, hk1⟩
      have fk := hG.flat hk.1 hk.2.2.1
      have f1 := hG.flat hk1.1 hk1.2.2.1
      have g0 : gr tx ty k < 0 := by have := (gr_sign (ty := ty) f1).2.mpr hr1; have := hh k1 hk1; omega
      have hr := (gr_sign (ty := ty) fk).2.mp g0
      obtain ⟨T, hT, eT⟩ := (hC.2.1 k hk.1 hk.2.1).1
      have htT : T < t := (lx_lt hC hT ht).mp (by have := hk.2.2.1; have := hk.2.2.2.1; omega)
      obtain ⟨i, hi, ei, fi⟩ := place_L hG hC ht hk
      have wk := walk_R hX' (z := Qf * n) (t := t) hT ht hk.1 hk.2.1 hk.2.2.1 eT (by have := hk.2.2.2.1; omega) (Qf_lt.mpr (by have := hk.2.2.2.2; omega)) hH (fun s h1 h2 => by
        have e1 := Hh_diff tx ty k (lx t) (lx s)
        have l1 := (lx_lt hC (show s < m by omega) ht).mpr h2
        have p := Int.mul_pos_of_neg_of_neg g0 (show lx s - lx t < 0 by omega)
        have := hk.h hG
        omega) (t - (T + 1)) t i (by omega) (Nat.le_refl _) hi ei
      have hP : PL tx ty lx N K t (Qf * n) = i + 1 := cp_eq mL (by omega) (fun j hj => by
          rcases Nat.lt_or_ge j i with z | z
          · have := mL j i z hi; omega
          · rw [show j = i by omega, fi]; exact Int.le_refl _) (fun j h1 h2 => by
          have p1 := mL i j (by omega) h2
          have p2 : fL tx ty lx K t j ≠ Qf * n := by
            intro e
            have hj := left_at hG hC ht h2 hw e
            have s1 := (slope_Lp hG hC ht hi h2 (by rw [fi, e])).2 (by omega)
            have := hh _ hj
            rw [ei] at s1
            omega
          omega)
      have eU := F_U1 (k := 0) hG hSF hw (by decide) w200.1 hk hh
      rw [hP] at toL ⊢
      rw [eU] at toL ⊢
      exact toL wk
/-- all of it -/
theorem HUE_step (hX : Ctx u tx ty m lx N K SFn SAb R) {n : Int} (hH : HUE u tx ty m lx N K SFn R (Qf * n)) : HUE u tx ty m lx N K SFn R (Qf * (n - 1)) := by
  refine ⟨fun t y2 w a b c d => ?_, fun t e y2 a b c => ?_⟩
  · have := Qf_lt.mp b
    by_cases e : y2 = n
    · subst e; exact step_U hX a hH c d
    · exact hH.1 t y2 w a (Qf_lt.mpr (by omega)) c d
  · have := Qf_lt.mp b
    by_cases e2 : y2 = n
    · subst e2; exact step_E hX a hH c
    · exact hH.2 t e y2 a (Qf_lt.mpr (by omega)) c
theorem HUE_all (hX : Ctx u tx ty m lx N K SFn SAb R) (y : Int) : HUE u tx ty m lx N K SFn R y := by
  have hG := hX.1
  have at_y : ∀ {x y2 : Int} {w : Nat}, At u tx ty x y2 w → -100 ≤ y2 ∧ y2 ≤ 100 := fun h => by have := (hG.2.1 _ h.1).2; rw [h.2.2.2] at this; exact this
  have all : ∀ d : Nat, HUE u tx ty m lx N K SFn R (Qf * (100 - d)) := by
    intro d
    induction d with
    | zero =>
      refine ⟨fun t y2 w a b c d => ?_, fun t e y2 a b c => ?_⟩
      · have := at_y c; have := Qf_lt.mp b; omega
      · have := at_y c.at; have := Qf_lt.mp b; omega
    | succ d ih =>
      have := HUE_step hX ih
      rw [show (100 : Int) - ((d + 1 : Nat) : Int) = 100 - (d : Int) - 1 by omega]
      exact this
  have h := all 201
  refine ⟨fun t y2 w a b c d => h.1 t y2 w a (Qf_lt.mpr (by have := at_y c; omega)) c d, fun t e y2 a b c => h.2 t e y2 a (Qf_lt.mpr (by have := at_y c.at; omega)) c⟩
end CL
