/-! Each join of the class is between sides of one face -/
section RS
variable {u : Nat → Bool} {tx ty : Nat → Int} {m : Nat} {lx : Nat → Int} {N : Nat → Nat} {K : Nat → Nat → Nat} {SFn : Nat → Int → Int → Nat} {SAb : Int → Int → Nat} {S : Nat × Nat → Nat × Nat → Prop}
theorem g_up (hG : Geo u tx ty) (hS : Sok u tx ty m lx N K S) {t w : Nat} {y : Int} (ht : t < m) (hw : At u tx ty (lx t) y w) (nU : ∀ e, ¬ Up u tx ty (lx t) y e) : S (t, PL tx ty lx N K t (Qf * y)) (t + 1, PR tx ty lx N K t (Qf * y)) := hS.2.2.2 t _ ht (free_at hG hw nU)
theorem free_below (hG : Geo u tx ty) {t w : Nat} {n : Int} (hw : At u tx ty (lx t) n w) (nD : ∀ e, ¬ Dn u tx ty (lx t) n e) : freeA u tx ty lx t (Qf * n - 1) := by
  intro e a b c d ⟨q1, q2⟩
  have Q := Qf_pos
  have q1 : ty (2 * e) < n := Qf_lt.mp (by omega)
  have q2 : n ≤ ty (2 * e + 1) := Qf_le.mp (by omega)
  have hlt : ty (2 * e) < ty (2 * e + 1) := by omega
  by_cases h : ty (2 * e + 1) = n
  · exact nD e ⟨a, b, ⟨c, hlt⟩, d, h⟩
  · have hins : ins tx ty e (lx t) n := (ins_up c hlt _ _).mpr ⟨d.symm, q1, by omega⟩
    have hne : w / 2 ≠ e := by
      intro z
      rcases (show w = 2 * (w / 2) ∨ w = 2 * (w / 2) + 1 by omega) with q | q
      · have := hw.2.2.2; rw [q, z] at this; omega
      · have := hw.2.2.2; rw [q, z] at this; omega
    have hm := hG.2.2 e (w / 2) a (by have := hw.1; omega) b hw.2.1 (fun z => hne z.symm)
    rcases (show w = 2 * (w / 2) ∨ w = 2 * (w / 2) + 1 by omega) with q | q
    · refine hm (Or.inr (Or.inl (Or.inl ?_))); rw [← q, hw.2.2.1, hw.2.2.2]; exact hins
    · refine hm (Or.inr (Or.inl (Or.inr ?_))); rw [← q, hw.2.2.1, hw.2.2.2]; exact hins
theorem g_dn (hG : Geo u tx ty) (hS : Sok u tx ty m lx N K S) {t w : Nat} {y : Int} (ht : t < m) (hw : At u tx ty (lx t) y w) (nD : ∀ e, ¬ Dn u tx ty (lx t) y e) : S (t, PL tx ty lx N K t (Qf * y - 1)) (t + 1, PR tx ty lx N K t (Qf * y - 1)) := hS.2.2.2 t _ ht (free_below hG hw nD)
theorem g_L (hG : Geo u tx ty) (hC : Cells u tx ty m lx N K) {t w : Nat} {y : Int} (ht : t < m) (hw : At u tx ty (lx t) y w) (nL : ∀ e, ¬ Lt u tx ty (lx t) y e) : PL tx ty lx N K t (Qf * y) = PL tx ty lx N K t (Qf * y - 1) :=
  cp_same (mono_L hG hC (t := t) (by omega)) (by omega) (fun j hj q => by
    rcases Int.lt_or_le (Qf * y) (fL tx ty lx K t j) with z | z
    · exact z
    · exact absurd (left_at hG hC ht hj hw (by omega)) (nL _))
theorem g_R (hG : Geo u tx ty) (hC : Cells u tx ty m lx N K) {t w : Nat} {y : Int} (ht : t < m) (hw : At u tx ty (lx t) y w) (nR : ∀ e, ¬ Rt u tx ty (lx t) y e) : PR tx ty lx N K t (Qf * y) = PR tx ty lx N K t (Qf * y - 1) :=
  cp_same (mono_R hG hC ht) (by omega) (fun j hj q => by
    rcases Int.lt_or_le (Qf * y) (fR tx ty lx K t j) with z | z
    · exact z
    · exact absurd (right_at hG hC ht hj hw (by omega)) (nR _))
theorem t_hiR (hG : Geo u tx ty) (hC : Cells u tx ty m lx N K) {t k : Nat} {y : Int} (ht : t < m) (hk : Rt u tx ty (lx t) y k) (hh : ∀ j, Rt u tx ty (lx t) y j → gr tx ty j ≤ gr tx ty k) : Tc u tx ty m lx N K (2 * k) (t + 1, PR tx ty lx N K t (Qf * y)) := by
  have mR := mono_R hG hC ht
  obtain ⟨i, hi, ei, fi⟩ := place_R hG hC ht hk
  have hP : PR tx ty lx N K t (Qf * y) = i + 1 := cp_eq mR (by omega) (fun j hj => by
      rcases Nat.lt_or_ge j i with z | z
      · have := mR j i z hi; omega
      · rw [show j = i by omega, fi]; exact Int.le_refl _) (fun j h1 h2 => by
      have p1 := mR i j (by omega) h2
      have p2 : fR tx ty lx K t j ≠ Qf * y := by
        intro e
        have hj := right_at hG hC ht h2 hk.at e
        have s1 := (slope_Rp hG hC ht hi h2 (by rw [fi, e])).2 (by omega)
        have := hh _ hj
        rw [ei] at s1
        omega
      omega)
  exact Or.inl ⟨t + 1, i, by omega, hi, Or.inl ⟨by rw [ei], by rw [hP]⟩⟩
theorem t_loR (hG : Geo u tx ty) (hC : Cells u tx ty m lx N K) {t k : Nat} {y : Int} (ht : t < m) (hk : Rt u tx ty (lx t) y k) (hh : ∀ j, Rt u tx ty (lx t) y j → gr tx ty k ≤ gr tx ty j) : Tc u tx ty m lx N K (2 * k + 1) (t + 1, PR tx ty lx N K t (Qf * y - 1)) := by
  have mR := mono_R hG hC ht
  obtain ⟨i, hi, ei, fi⟩ := place_R hG hC ht hk
  have hP : PR tx ty lx N K t (Qf * y - 1) = i := cp_eq mR (by omega) (fun j hj => by
      have p1 := mR j i hj hi
      have p2 : fR tx ty lx K t j ≠ Qf * y := by
        intro e
        have hj2 := right_at hG hC ht (by omega) hk.at e
        have s1 := (slope_Rp hG hC ht (by omega) hi (by rw [fi, e])).2 hj
        have := hh _ hj2
        rw [ei] at s1
        omega
      omega) (fun j h1 h2 => by
      rcases Nat.lt_or_ge i j with z | z
      · have := mR i j z h2; omega
      · rw [show j = i by omega, fi]; omega)
  exact Or.inl ⟨t + 1, i, by omega, hi, Or.inr ⟨by rw [ei], by rw [hP]⟩⟩
theorem t_hiL (hG : Geo u tx ty) (hC : Cells u tx ty m lx N K) {t k : Nat} {y : Int} (ht : t < m) (hk : Lt u tx ty (lx t) y k) (hh : ∀ j, Lt u tx ty (lx t) y j → gr tx ty k ≤ gr tx ty j) : Tc u tx ty m lx N K (2 * k) (t, PL tx ty lx N K t (Qf * y)) := by
  have mL := mono_L hG hC (t := t) (by omega)
  obtain ⟨i, hi, ei, fi⟩ := place_L hG hC ht hk
  have hP : PL tx ty lx N K t (Qf * y) = i + 1 := cp_eq mL (by omega) (fun j hj => by
      rcases Nat.lt_or_ge j i with z | z
      · have := mL j i z hi; omega
      · rw [show j = i by omega, fi]; exact Int.le_refl _) (fun j h1 h2 => by
      have p1 := mL i j (by omega) h2
      have p2 : fL tx ty lx K t j ≠ Qf * y := by
        intro e
        have hj := left_at hG hC ht h2 hk.at e
        have s1 := (slope_Lp hG hC ht hi h2 (by rw [fi, e])).2 (by omega)
        have := hh _ hj
        rw [ei] at s1
        omega
      omega)
  exact Or.inl ⟨t, i, by omega, hi, Or.inl ⟨by rw [ei], by rw [hP]⟩⟩
theorem t_loL (hG : Geo u tx ty) (hC : Cells u tx ty m lx N K) {t k : Nat} {y : Int} (ht : t < m) (hk : Lt u tx ty (lx t) y k) (hh : ∀ j, Lt u tx ty (lx t) y j → gr tx ty j ≤ gr tx ty k) : Tc u tx ty m lx N K (2 * k + 1) (t, PL tx ty lx N K t (Qf * y - 1)) := by
  have mL := mono_L hG hC (t := t) (by omega)
  obtain ⟨i, hi, ei, fi⟩ := place_L hG hC ht hk
  have hP : PL tx ty lx N K t (Qf * y - 1) = i := cp_eq mL (by omega) (fun j hj => by
      have p1 := mL j i hj hi
      have p2 : fL tx ty lx K t j ≠ Qf * y := by
        intro e
        have hj2 := left_at hG hC ht (by omega) hk.at e
        have s1 := (slope_Lp hG hC ht (by omega) hi (by rw [fi, e])).2 hj
        have := hh _ hj2
        rw [ei] at s1
        omega
      omega) (fun j h1 h2 => by
      rcases Nat.lt_or_ge i j with z | z
      · have := mL i j z h2; omega
      · rw [show j = i by omega, fi]; omega)
  exact Or.inl ⟨t, i, by omega, hi, Or.inr ⟨by rw [ei], by rw [hP]⟩⟩
theorem t_Up {t e : Nat} {y : Int} (ht : t < m) (he : Up u tx ty (lx t) y e) : Tc u tx ty m lx N K (2 * e) (t, PL tx ty lx N K t (Qf * y)) ∧ Tc u tx ty m lx N K (2 * e + 1) (t + 1, PR tx ty lx N K t (Qf * y)) := by
  have h2 := he.2.2.2.2
  subst h2
  exact ⟨Or.inr (Or.inl ⟨e, t, ht, he, Or.inl ⟨rfl, rfl⟩⟩), Or.inr (Or.inl ⟨e, t, ht, he, Or.inr ⟨rfl, rfl⟩⟩)⟩
theorem t_Dn (hG : Geo u tx ty) (hC : Cells u tx ty m lx N K) {t e : Nat} {y : Int} (ht : t < m) (hd : Dn u tx ty (lx t) y e) : Tc u tx ty m lx N K (2 * e) (t, PL tx ty lx N K t (Qf * y - 1)) ∧ Tc u tx ty m lx N K (2 * e + 1) (t + 1, PR tx ty lx N K t (Qf * y - 1)) := by
  have he : Up u tx ty (lx t) (ty (2 * e)) e := ⟨hd.1, hd.2.1, hd.2.2.1, hd.2.2.2.1, rfl⟩
  have hlt : ty (2 * e) < y := by have := hd.2.2.1.2; have := hd.2.2.2.2; omega
  have hz : Qf * ty (2 * e) < Qf * y := Qf_lt.mpr hlt
  have btw : ∀ k, k < 20 → u k = true → flat tx k → tx (2 * k) ≤ lx t → lx t ≤ tx (2 * k + 1) → Qf * ty (2 * e) < Hh tx ty k (lx t) → Qf * y - 1 < Hh tx ty k (lx t) := by
    intro k hk hu fk a b q
    apply Int.not_le.mp
    intro q2
    have hne : k ≠ e := fun z => by rw [z] at fk; have := fk.1; have := he.2.2.1.1; omega
    have ex := he.2.2.2.1
    have g := (G4 he.2.2.1.1 he.2.2.1.2 fk (hG.2.2 k e hk he.1 hu he.2.1 hne) (by omega) (by omega) (by rw [ex]; omega) (by rw [ex, hd.2.2.2.2]; omega)).1
    rw [ex, hd.2.2.2.2] at g
    omega
  have s1 : PL tx ty lx N K t (Qf * y - 1) = PL tx ty lx N K t (Qf * ty (2 * e)) := cp_same (mono_L hG hC (t := t) (by omega)) (by omega) (fun j hj q => by
    obtain ⟨_, _, b1, b2, b3, b4, b5, b6⟩ := hC.at hG (s := t) (by omega) hj
    exact btw _ b1 b2 b6 (by omega) b5 q)
  have s2 : PR tx ty lx N K t (Qf * y - 1) = PR tx ty lx N K t (Qf * ty (2 * e)) := cp_same (mono_R hG hC ht) (by omega) (fun j hj q => by
    obtain ⟨_, _, b1, b2, b3, b4, b5, b6⟩ := hC.at hG (s := t + 1) (by omega) hj
    rw [show t + 1 - 1 = t by omega] at b3 b4
    exact btw _ b1 b2 b6 b3 (by omega) q)
  rw [s1, s2]
  exact t_Up ht he
/-- linked by cells -/
def Lk (u : Nat → Bool) (tx ty : Nat → Int) (m : Nat) (lx : Nat → Int) (N : Nat → Nat) (K : Nat → Nat → Nat) (S : Nat × Nat → Nat × Nat → Prop) (a b : Nat) : Prop := ∃ c d, Tc u tx ty m lx N K a c ∧ Tc u tx ty m lx N K b d ∧ S c d
/-- what is seen above a point from which no upright rises touches the cell left above it -/
theorem wU_touch (hG : Geo u tx ty) (hC : Cells u tx ty m lx N K) (hSF : SFok u tx ty SFn) (hS : Sok u tx ty m lx N K S) {t w : Nat} {y : Int} (ht : t < m) (hw : At u tx ty (lx t) y w) (nU : ∀ e, ¬ Up u tx ty (lx t) y e) : ∃ c, Tc u tx ty m lx N K (SFn w 0 1) c ∧ S c (t, PL tx ty lx N K t (Qf * y)) := by
  by_cases hL : ∃ k, Lt u tx ty (lx t) y k
  · obtain ⟨j, hj, hm⟩ := ex_hiL hL
    rw [F_U1 (k := 0) hG hSF hw (by decide) w200.1 hj hm]
    exact ⟨_, t_hiL hG hC ht hj hm, hS.1 _⟩
  · have nL : ∀ i, ¬ Lt u tx ty (lx t) y i := fun i hi => hL ⟨i, hi⟩
    rw [g_L hG hC ht hw nL]
    by_cases hD : ∃ k, Dn u tx ty (lx t) y k
    · obtain ⟨e, he⟩ := hD
      rw [F_U2 (k := 0) hG hSF hw (by decide) w200.1 nL he]
      exact ⟨_, (t_Dn hG hC ht he).1, hS.1 _⟩
    · have nD : ∀ i, ¬ Dn u tx ty (lx t) y i := fun i hi => hD ⟨i, hi⟩
      rcases hw.kind hG with q | q | ⟨e, q⟩ | q
      · obtain ⟨j, hj, hm⟩ := ex_loR q
        rw [F_U3 (k := 0) hG hSF hw (by decide) w200.1 nL nD hj hm]
        exact ⟨_, t_loR hG hC ht hj hm, hS.2.1 _ _ (g_dn hG hS ht hw nD)⟩
      · exact absurd q hL
      · exact absurd q (nU e)
      · exact absurd q hD
/-- what is seen below a point touches the cell right below it -/
theorem wD_touch (hG : Geo u tx ty) (hC : Cells u tx ty m lx N K) (hSF : SFok u tx ty SFn) (hS : Sok u tx ty m lx N K S) {t w : Nat} {y : Int} (ht : t < m) (hw : At u tx ty (lx t) y w) (nD : ∀ e, ¬ Dn u tx ty (lx t) y e) : ∃ c, Tc u tx ty m lx N K (SFn w 0 (-1)) c ∧ S c (t + 1, PR tx ty lx N K t (Qf * y - 1)) := by
  by_cases hR : ∃ k, Rt u tx ty (lx t) y k
  · obtain ⟨j, hj, hm⟩ := ex_loR hR
    rw [F_D1 (k := 0) hG hSF hw (by decide) w200.2 hj hm]
    exact ⟨_, t_loR hG hC ht hj hm, hS.1 _⟩
  · have nR : ∀ i, ¬ Rt u tx ty (lx t) y i := fun i hi => hR ⟨i, hi⟩
    rw [← g_R hG hC ht hw nR]
    by_cases hU : ∃ k, Up u tx ty (lx t) y k
    · obtain ⟨e, he⟩ := hU
      rw [F_D2 (k := 0) hG hSF hw (by decide) w200.2 nR he]
      exact ⟨_, (t_Up ht he).2, hS.1 _⟩
    · have nU : ∀ i, ¬ Up u tx ty (lx t) y i := fun i hi => hU ⟨i, hi⟩
      rcases hw.kind hG with q | q | q | ⟨e, q⟩
      · exact absurd q hR
      · obtain ⟨j, hj, hm⟩ := ex_hiL q
        rw [F_D3 (k := 0) hG hSF hw (by decide) w200.2 nR nU hj hm]
        exact ⟨_, t_hiL hG hC ht hj hm, g_up hG hS ht hw nU⟩
      · exact absurd q hU
      · exact absurd q (nD e)
theorem line_of (hC : Cells u tx ty m lx N K) {a : Nat} (ha : a < 40) (hu : u (a / 2) = true) : ∃ t, t < m ∧ lx t = tx a := by
  have h := hC.2.1 (a / 2) (by omega) hu
  rcases (show a = 2 * (a / 2) ∨ a = 2 * (a / 2) + 1 by omega) with e | e
  · rw [← e] at h; exact h.1
  · rw [← e] at h; exact h.2
/-- the joins round a point -/
theorem E1_resp (hG : Geo u tx ty) (hC : Cells u tx ty m lx N K) (hSF : SFok u tx ty SFn) (hS : Sok u tx ty m lx N K S) {a : Nat} (ha : a < 40) (hu : u (a / 2) = true) : Lk u tx ty m lx N K S a (SFn a (tx (tw a) - tx a) (ty (tw a) - ty a)) := by
  obtain ⟨t, ht, et⟩ := line_of hC ha hu
  obtain ⟨y, hy⟩ : ∃ y, y = ty a := ⟨_, rfl⟩
  have hw : At u tx ty (lx t) y a := ⟨ha, hu, et.symm, hy.symm⟩
  rcases arrow_kind hG ha hu with ⟨k, rfl, hk⟩ | ⟨k, rfl, hk⟩ | ⟨k, rfl, hk⟩ | ⟨k, rfl, hk⟩ <;> rw [← et, ← hy] at hk
  · -- to the right
    obtain ⟨i, hi, ei, fi⟩ := place_R hG hC ht hk
    by_cases c : i + 1 < N (t + 1) ∧ fR tx ty lx K t (i + 1) = Qf * y
    · obtain ⟨c1, c2⟩ := c
      have hb := right_at hG hC ht c1 hw c2
      rw [F_R1 hG hSF hk hb (by have := (slope_Rp hG hC ht hi c1 (by rw [fi, c2])).2 (by omega); rw [ei] at this; exact this) (fun j hj => by
        obtain ⟨b, hbb, eb, fb⟩ := place_R hG hC ht hj
        rcases Nat.lt_or_ge i b with z | z
        · right; rw [← eb]; exact (slope_Rp hG hC ht c1 hbb (by rw [c2, fb])).1 (by omega)
        · left; rw [← eb, ← ei]; exact (slope_Rp hG hC ht hbb hi (by rw [fb, fi])).1 z)]
      exact ⟨(t + 1, i + 1), (t + 1, i + 1), Or.inl ⟨t + 1, i, by omega, hi, Or.inl ⟨by rw [ei], rfl⟩⟩, Or.inl ⟨t + 1, i + 1, by omega, c1, Or.inr ⟨rfl, rfl⟩⟩, hS.1 _⟩
    · have mR := mono_R hG hC ht
      have hh : ∀ j, Rt u tx ty (lx t) y j → gr tx ty j ≤ gr tx ty k := by
        intro j hj
        obtain ⟨b, hbb, eb, fb⟩ := place_R hG hC ht hj
        have : b ≤ i := by
          rcases Nat.lt_or_ge i b with z | z
          · exfalso
            apply c
            refine ⟨by omega, ?_⟩
            rcases Nat.lt_or_ge (i + 1) b with z2 | z2
            · have p1 := mR i (i + 1) (by omega) (by omega)
              have p2 := mR (i + 1) b z2 hbb
              omega
            · rw [show i + 1 = b by omega]; exact fb
          · exact z
        rw [← eb, ← ei]; exact (slope_Rp hG hC ht hbb hi (by rw [fb, fi])).1 this
      have hT := t_hiR hG hC ht hk hh
      by_cases hU : ∃ e, Up u tx ty (lx t) y e
      · obtain ⟨e, he⟩ := hU
        rw [F_R2 hG hSF hk hh he]
        exact ⟨_, _, hT, (t_Up ht he).2, hS.1 _⟩
      · have nU : ∀ e, ¬ Up u tx ty (lx t) y e := fun e he => hU ⟨e, he⟩
        rw [nx_hiR hG hSF hk hh nU hw]
        obtain ⟨d, hd, hs⟩ := wU_touch hG hC hSF hS ht hw nU
        exact ⟨_, _, hT, hd, hS.2.2.1 _ _ _ (hS.2.1 _ _ (g_up hG hS ht hw nU)) (hS.2.1 _ _ hs)⟩
  · -- to the left
    obtain ⟨i, hi, ei, fi⟩ := place_L hG hC ht hk
    by_cases c : 0 < i ∧ fL tx ty lx K t (i - 1) = Qf * y
    · obtain ⟨c1, c2⟩ := c
      have hb := left_at hG hC ht (show i - 1 < N t by omega) hw c2
      rw [F_L1 hG hSF hk hb (by have := (slope_Lp hG hC ht (by omega) hi (by rw [fi, c2])).2 (show i - 1 < i by omega); rw [ei] at this; exact this) (fun j hj => by
        obtain ⟨b, hbb, eb, fb⟩ := place_L hG hC ht hj
        rcases Nat.lt_or_ge b i with z | z
        · right; rw [← eb]; exact (slope_Lp hG hC ht hbb (by omega) (by rw [c2, fb])).1 (by omega)
        · left; rw [← eb, ← ei]; exact (slope_Lp hG hC ht hi hbb (by rw [fb, fi])).1 z)]
      exact ⟨(t, i), (t, i), Or.inl ⟨t, i, by omega, hi, Or.inr ⟨by rw [ei], rfl⟩⟩, Or.inl ⟨t, i - 1, by omega, by omega, Or.inl ⟨rfl, by rw [show i - 1 + 1 = i by omega]⟩⟩, hS.1 _⟩
    · have mL := mono_L hG hC (t := t) (by omega)
      have hh : ∀ j, Lt u tx ty (lx t) y j → gr tx ty j ≤ gr tx ty k := by
        intro j hj
        obtain ⟨b, hbb, eb, fb⟩ := place_L hG hC ht hj
        have : i ≤ b := by
          rcases Nat.lt_or_ge b i with z | z
          · exfalso
            apply c
            refine ⟨by omega, ?_⟩
            rcases Nat.lt_or_ge b (i - 1) with z2 | z2
            · have p1 := mL b (i - 1) z2 (by omega)
              have p2 := mL (i - 1) i (by omega) hi
              omega
            · rw [show i - 1 = b by omega]; exact fb
          · exact z
        rw [← eb, ← ei]; exact (slope_Lp hG hC ht hi hbb (by rw [fb, fi])).1 this
      have hT := t_loL hG hC ht hk hh
      by_cases hD : ∃ e, Dn u tx ty (lx t) y e
      · obtain ⟨e, he⟩ := hD
        rw [F_L2 hG hSF hk hh he]
        exact ⟨_, _, hT, (t_Dn hG hC ht he).1, hS.1 _⟩
      · have nD : ∀ e, ¬ Dn u tx ty (lx t) y e := fun e he => hD ⟨e, he⟩
        rw [nx_loL hG hSF hk hh nD hw]
        obtain ⟨d, hd, hs⟩ := wD_touch hG hC hSF hS ht hw nD
        exact ⟨_, _, hT, hd, hS.2.2.1 _ _ _ (g_dn hG hS ht hw nD) (hS.2.1 _ _ hs)⟩
  · -- up
    have hT := (t_Up (N := N) (K := K) ht hk).1
    obtain ⟨d1, d2⟩ := Up_dir hk
    have wd := dir_w hG hk.at.1
    rw [d1]
    by_cases hL : ∃ k, Lt u tx ty (lx t) y k
    · obtain ⟨j, hj, hm⟩ := ex_hiL hL
      rw [F_U1 (k := 0) hG hSF hw d2 wd hj hm]
      exact ⟨_, _, hT, t_hiL hG hC ht hj hm, hS.1 _⟩
    · have nL : ∀ i, ¬ Lt u tx ty (lx t) y i := fun i hi => hL ⟨i, hi⟩
      have eL := g_L hG hC ht hw nL
      by_cases hD : ∃ e, Dn u tx ty (lx t) y e
      · obtain ⟨e, he⟩ := hD
        rw [F_U2 (k := 0) hG hSF hw d2 wd nL he]
        exact ⟨_, _, hT, (t_Dn hG hC ht he).1, by rw [eL]; exact hS.1 _⟩
      · have nD : ∀ e, ¬ Dn u tx ty (lx t) y e := fun e he => hD ⟨e, he⟩
        have gd := g_dn hG hS ht hw nD
        rw [← eL] at gd
        by_cases hR : ∃ k, Rt u tx ty (lx t) y k
        · obtain ⟨j, hj, hm⟩ := ex_loR hR
          rw [F_U3 (k := 0) hG hSF hw d2 wd nL nD hj hm]
          exact ⟨_, _, hT, t_loR hG hC ht hj hm, gd⟩
        · have nR : ∀ i, ¬ Rt u tx ty (lx t) y i := fun i hi => hR ⟨i, hi⟩
          rw [F_U4 (k := 0) hG hSF hw d2 wd nL nD nR hk]
          exact ⟨_, _, hT, (t_Up ht hk).2, by rw [g_R hG hC ht hw nR]; exact gd⟩
  · -- down
    have hT := (t_Dn hG hC ht hk).2
    obtain ⟨d1, d2⟩ := Dn_dir hk
    have wd := dir_w hG hk.at.1
    rw [d1]
    by_cases hR : ∃ k, Rt u tx ty (lx t) y k
    · obtain ⟨j, hj, hm⟩ := ex_loR hR
      rw [F_D1 (k := 0) hG hSF hw d2 wd hj hm]
      exact ⟨_, _, hT, t_loR hG hC ht hj hm, hS.1 _⟩
    · have nR : ∀ i, ¬ Rt u tx ty (lx t) y i := fun i hi => hR ⟨i, hi⟩
      have eR := g_R hG hC ht hw nR
      by_cases hU : ∃ e, Up u tx ty (lx t) y e
      · obtain ⟨e, he⟩ := hU
        rw [F_D2 (k := 0) hG hSF hw d2 wd nR he]
        exact ⟨_, _, hT, (t_Up ht he).2, by rw [eR]; exact hS.1 _⟩
      · have nU : ∀ e, ¬ Up u tx ty (lx t) y e := fun e he => hU ⟨e, he⟩
        have gu := g_up hG hS ht hw nU
        rw [eR] at gu
        by_cases hL : ∃ k, Lt u tx ty (lx t) y k
        · obtain ⟨j, hj, hm⟩ := ex_hiL hL
          rw [F_D3 (k := 0) hG hSF hw d2 wd nR nU hj hm]
          exact ⟨_, _, hT, t_hiL hG hC ht hj hm, hS.2.1 _ _ gu⟩
        · have nL : ∀ i, ¬ Lt u tx ty (lx t) y i := fun i hi => hL ⟨i, hi⟩
          rw [F_D4 (k := 0) hG hSF hw d2 wd nR nU nL hk]
          exact ⟨_, _, hT, (t_Dn hG hC ht hk).1, by rw [← g_L hG hC ht hw nL]; exact hS.2.1 _ _ gu⟩
end RS
