/-! Groups: what scattering and joining make -/
theorem scatter_fl (N : Nat) (L : Nat → Nat) : ∀ n i Lc, n + i = N → ∀ q, (fl_G_scatter N L n i Lc) q = if i ≤ q ∧ q < N then q else Lc q := by
  intro n
  induction n with
  | zero => intro i Lc h q; show Lc q = _; rw [if_neg (by omega)]
  | succ n ih =>
    intro i Lc h q
    show fl_G_scatter N L n (i + 1) (updN Lc i i) q = _
    rw [ih (i + 1) _ (by omega)]
    unfold updN
    by_cases e : q = i
    · subst e; rw [if_neg (by omega), if_pos rfl, if_pos (by omega)]
    · rw [if_neg e]
      by_cases e2 : i ≤ q ∧ q < N
      · rw [if_pos e2, if_pos (by omega)]
      · rw [if_neg e2, if_neg (by omega)]
theorem scatter_at {N : Nat} (L : Nat → Nat) {q : Nat} (h : q < N) : f_G_scatter N L q = q := by
  show fl_G_scatter N L N 0 L q = q
  rw [scatter_fl N L N 0 L (by omega), if_pos (by omega)]
/-- names that lead to themselves -/
def Led (N : Nat) (L : Nat → Nat) : Prop := ∀ q, q < N → L q < N ∧ L (L q) = L q
theorem join_fl {N : Nat} (hN : N < 100) (L : Nat → Nat) (i j fm tt : Nat) (hf : fm < 100) (ht : tt < 100) : ∀ n q Lc, n + q = N → (∀ c, c < N → Lc c < 100) → ∀ c, c < N → (fl_G_join N L i j n q fm tt Lc) c = if q ≤ c ∧ Lc c = fm then tt else Lc c := by
  intro n
  induction n with
  | zero => intro q Lc h _ c hc; show Lc c = _; rw [if_neg (by omega)]
  | succ n ih =>
    intro q Lc h hb c hc
    show fb_G_join N L i j (fl_G_join N L i j n) q fm tt Lc c = _
    unfold fb_G_join
    have hq := hb q (by omega)
    by_cases e : nI (Lc q) = nI fm
    · have e' := (nI_eq (by omega) (by omega)).mp e
      rw [if_pos e]
      rw [ih (q + 1) _ (by omega) (fun d hd => by unfold updN; by_cases z : d = q; rw [if_pos z]; exact ht; rw [if_neg z]; exact hb d hd) c hc]
      unfold updN
      by_cases e2 : c = q
      · subst e2; rw [if_pos rfl, if_neg (by omega), if_pos (by omega)]
      · rw [if_neg e2]
        by_cases e3 : q ≤ c ∧ Lc c = fm
        · rw [if_pos e3, if_pos (by omega)]
        · rw [if_neg e3, if_neg (by omega)]
    · rw [if_neg e]
      have e' : Lc q ≠ fm := fun z => e (by rw [z])
      rw [ih (q + 1) _ (by omega) hb c hc]
      by_cases e2 : c = q
      · subst e2; rw [if_neg (by omega), if_neg (by omega)]
      · by_cases e3 : q ≤ c ∧ Lc c = fm
        · rw [if_pos e3, if_pos (by omega)]
        · rw [if_neg e3, if_neg (by omega)]
theorem join_at {N : Nat} (hN : N < 100) {L : Nat → Nat} (hL : Led N L) {i j c : Nat} (hi : i < N) (hj : j < N) (hc : c < N) : f_G_join N L i j c = if L c = L i then L j else L c := by
  have a := (hL i hi).1
  have b := (hL j hj).1
  unfold f_G_join
  by_cases e : nI (L i) = nI (L j)
  · have e' := (nI_eq (by omega) (by omega)).mp e
    rw [if_pos e]
    split
    · next h => rw [h, e']
    · rfl
  · rw [if_neg e, join_fl hN L i j (L i) (L j) (by omega) (by omega) N 0 L (by omega) (fun d hd => by have := (hL d hd).1; omega) c hc]
    by_cases e2 : L c = L i
    · rw [if_pos (by omega), if_pos e2]
    · rw [if_neg (by omega), if_neg e2]
/-- after a join: still names that lead to themselves; both together; what was together stays so; nothing else comes together -/
theorem join_led {N : Nat} (hN : N < 100) {L : Nat → Nat} (hL : Led N L) {i j : Nat} (hi : i < N) (hj : j < N) : Led N (f_G_join N L i j) := by
  intro q hq
  rw [join_at hN hL hi hj hq]
  obtain ⟨a1, a2⟩ := hL q hq
  obtain ⟨b1, b2⟩ := hL j hj
  obtain ⟨c1, c2⟩ := hL i hi
  by_cases e : L q = L i
  · rw [if_pos e]
    refine ⟨b1, ?_⟩
    rw [join_at hN hL hi hj b1, b2]
    split <;> rfl
  · rw [if_neg e]
    refine ⟨a1, ?_⟩
    rw [join_at hN hL hi hj a1, a2, if_neg e]
theorem join_both {N : Nat} (hN : N < 100) {L : Nat → Nat} (hL : Led N L) {i j : Nat} (hi : i < N) (hj : j < N) : f_G_join N L i j i = f_G_join N L i j j := by
  rw [join_at hN hL hi hj hi, join_at hN hL hi hj hj, if_pos rfl]
  split <;> rfl
theorem join_keep {N : Nat} (hN : N < 100) {L : Nat → Nat} (hL : Led N L) {i j p q : Nat} (hi : i < N) (hj : j < N) (hp : p < N) (hq : q < N) (h : L p = L q) : f_G_join N L i j p = f_G_join N L i j q := by
  rw [join_at hN hL hi hj hp, join_at hN hL hi hj hq, h]
theorem join_sound {N : Nat} (hN : N < 100) {L : Nat → Nat} (hL : Led N L) {R : Nat → Nat → Prop} (hR : Eqv R) (hs : ∀ p q, p < N → q < N → L p = L q → R p q) {i j : Nat} (hi : i < N) (hj : j < N) (hij : R i j) : ∀ p q, p < N → q < N → f_G_join N L i j p = f_G_join N L i j q → R p q := by
  intro p q hp hq h
  rw [join_at hN hL hi hj hp, join_at hN hL hi hj hq] at h
  by_cases e1 : L p = L i <;> by_cases e2 : L q = L i
  · exact hs p q hp hq (by omega)
  · rw [if_pos e1, if_neg e2] at h
    exact hR.2.2 _ _ _ (hs p i hp hi e1) (hR.2.2 _ _ _ hij (hs j q hj hq h))
  · rw [if_neg e1, if_pos e2] at h
    exact hR.2.2 _ _ _ (hs p j hp hj h) (hR.2.2 _ _ _ (hR.2.1 _ _ hij) (hs i q hi hq e2.symm))
  · rw [if_neg e1, if_neg e2] at h
    exact hs p q hp hq h
/-- a state of the names in which some pairs are joined -/
def Gd (N : Nat) (L : Nat → Nat) (R : Nat → Nat → Prop) : Prop := Led N L ∧ ∀ p q, p < N → q < N → L p = L q → R p q
theorem Gd_join {N : Nat} (hN : N < 100) {L : Nat → Nat} {R : Nat → Nat → Prop} (hR : Eqv R) (h : Gd N L R) {i j : Nat} (hi : i < N) (hj : j < N) (hij : R i j) : Gd N (f_G_join N L i j) R := ⟨join_led hN h.1 hi hj, join_sound hN h.1 hR h.2 hi hj hij⟩
theorem Gd_scatter {N : Nat} (L : Nat → Nat) {R : Nat → Nat → Prop} (hR : Eqv R) : Gd N (f_G_scatter N L) R := by
  refine ⟨fun q hq => ?_, fun p q hp hq h => ?_⟩
  · rw [scatter_at L hq]; exact ⟨hq, scatter_at L hq⟩
  · rw [scatter_at L hp, scatter_at L hq] at h; rw [h]; exact hR.1 _
section RG
variable {u : Nat → Bool} {X Y : Nat → Int32}
theorem peak_fl (hY : Bd Y) {a : Nat} : ∀ n b, n + b = 40 → (fl_M_startsAtPeak u X Y a n b = true ↔ ∀ c, b ≤ c → c < 40 → u (c / 2) = true → tI X c = tI X a → tI Y c = tI Y a → tI Y (tw c) - tI Y c ≤ 0) := by
  intro n
  induction n with
  | zero => intro b h; exact ⟨fun _ c h1 h2 => by omega, fun _ => rfl⟩
  | succ n ih =>
    intro b h
    show fb_M_startsAtPeak u X Y a (fl_M_startsAtPeak u X Y a n) b = true ↔ _
    have ih := ih (b + 1) (by omega)
    have skip : (u (b / 2) = true → tI X b = tI X a → tI Y b = tI Y a → tI Y (tw b) - tI Y b ≤ 0) → (fl_M_startsAtPeak u X Y a n (b + 1) = true ↔ ∀ c, b ≤ c → c < 40 → u (c / 2) = true → tI X c = tI X a → tI Y c = tI Y a → tI Y (tw c) - tI Y c ≤ 0) := fun hs => by
      rw [ih]
      constructor
      · intro q c h1 h2 h3 h4 h5
        by_cases e : c = b
        · rw [e] at h3 h4 h5 ⊢; exact hs h3 h4 h5
        · exact q c (by omega) h2 h3 h4 h5
      · exact fun q c h1 => q c (by omega)
    unfold fb_M_startsAtPeak
    by_cases c1 : u (b / 2) = true
    · rw [if_pos c1]
      by_cases c2 : f_M_sameTail u X Y a b = true
      · rw [if_pos c2]
        obtain ⟨t1, t2⟩ := same_tail.mp c2
        have sY := Is_stepY (u := u) (X := X) hY (a := b) (by omega)
        by_cases c3 : f_M_stepY u X Y b ≤ 0
        · rw [if_pos c3]
          exact skip (fun _ _ _ => (Is_le sY Is_0).mp c3)
        · rw [if_neg c3]
          have := (Is_nle sY Is_0).mp c3
          exact ⟨fun z => (by cases z), fun q => by have := q b (by omega) (by omega) c1 t1.symm t2.symm; omega⟩
      · rw [if_neg c2]
        exact skip (fun _ h1 h2 => absurd (same_tail.mpr ⟨h1.symm, h2.symm⟩) c2)
    · rw [if_neg c1]
      exact skip (fun h1 => absurd h1 c1)
theorem peak_iff (hY : Bd Y) {a : Nat} : f_M_startsAtPeak u X Y a = true ↔ ∀ c, c < 40 → u (c / 2) = true → tI X c = tI X a → tI Y c = tI Y a → tI Y (tw c) - tI Y c ≤ 0 := by
  have := peak_fl (u := u) (X := X) hY (a := a) 40 0 rfl
  exact this.trans ⟨fun q c => q c (by omega), fun q c _ => q c⟩
/-- segments that the class joins into parts -/
def nxt (u : Nat → Bool) (X Y : Nat → Int32) (a : Nat) : Nat := f_M_sideFacing u X Y a (f_M_stepX u X Y a) (f_M_stepY u X Y a)
def GP (u : Nat → Bool) (X Y : Nat → Int32) (k j : Nat) : Prop := ∀ R : Nat → Nat → Prop, Eqv R → (∀ a, a < 40 → u (a / 2) = true → R (a / 2) (nxt u X Y a / 2)) → R k j
theorem GP_eqv : Eqv (GP u X Y) := ⟨fun a R h1 _ => h1.1 a, fun a b h R h1 h2 => h1.2.1 _ _ (h R h1 h2), fun a b c h g R h1 h2 => h1.2.2 _ _ _ (h R h1 h2) (g R h1 h2)⟩
abbrev GF (u : Nat → Bool) (X Y : Nat → Int32) : Nat → Nat → Prop := GR u (tI X) (tI Y) (sfn u X Y) (sab u X Y)
def Done (u : Nat → Bool) (X Y : Nat → Int32) (M1 M2 : Nat → Nat) (c : Nat) : Prop := u (c / 2) = true → M1 c = M1 (nxt u X Y c) ∧ M2 (c / 2) = M2 (nxt u X Y c / 2) ∧ (f_M_startsAtPeak u X Y c = true → M1 (f_M_sideFacing u X Y c 0 1) = M1 (f_M_sideAbove u X Y (X c) (Y c)))
set_option maxHeartbeats 1000000 in
theorem regroup_fl (hX : Bd X) (hY : Bd Y) (L1 L2 : Nat → Nat) : ∀ n a M1 M2, n + a = 40 → Gd 41 M1 (GF u X Y) → Gd 20 M2 (GP u X Y) → (∀ c, c < a → Done u X Y M1 M2 c) → Gd 41 (fl_A_regroup u X Y L1 L2 n a M1 M2).1 (GF u X Y) ∧ Gd 20 (fl_A_regroup u X Y L1 L2 n a M1 M2).2 (GP u X Y) ∧ ∀ c, c < 40 → Done u X Y (fl_A_regroup u X Y L1 L2 n a M1 M2).1 (fl_A_regroup u X Y L1 L2 n a M1 M2).2 c := by
  intro n
  induction n with
  | zero => intro a M1 M2 h g1 g2 hd; exact ⟨g1, g2, fun c hc => hd c (by omega)⟩
  | succ n ih =>
    intro a M1 M2 h g1 g2 hd
    show Gd 41 (fb_A_regroup u X Y L1 L2 (fl_A_regroup u X Y L1 L2 n) a M1 M2).1 (GF u X Y) ∧ Gd 20 (fb_A_regroup u X Y L1 L2 (fl_A_regroup u X Y L1 L2 n) a M1 M2).2 (GP u X Y) ∧ ∀ c, c < 40 → Done u X Y (fb_A_regroup u X Y L1 L2 (fl_A_regroup u X Y L1 L2 n) a M1 M2).1 (fb_A_regroup u X Y L1 L2 (fl_A_regroup u X Y L1 L2 n) a M1 M2).2 c
    unfold fb_A_regroup
    have ha : a < 40 := by omega
    by_cases c1 : f_M_hasArrow u X Y a = true
    · rw [if_pos c1]
      have hu : u (a / 2) = true := c1
      have n1 : nxt u X Y a < 40 := sideFacing_lt _ _ _ _ _ _ ha
      obtain ⟨P1, hP1⟩ : ∃ P, P = f_G_join 41 M1 a (nxt u X Y a) := ⟨_, rfl⟩
      obtain ⟨P2, hP2⟩ : ∃ P, P = f_G_join 20 M2 (a / 2) (nxt u X Y a / 2) := ⟨_, rfl⟩
      have e1 : f_A_joinWithNextAroundTail u X Y M1 M2 a = (P1, P2) := by rw [hP1, hP2]; rfl
      rw [e1]
      have k1 : Gd 41 P1 (GF u X Y) := by
        rw [hP1]
        refine Gd_join (by decide) GR_eqv g1 (by omega) (by omega) ?_
        intro R h1 h2 h3
        have := h2 a ha hu
        rw [sfn_step hX hY ha] at this
        exact this
      have k2 : Gd 20 P2 (GP u X Y) := by
        rw [hP2]
        exact Gd_join (by decide) GP_eqv g2 (by omega) (by omega) (fun R h1 h2 => h2 a ha hu)
      have keep : ∀ c, c < a → Done u X Y P1 P2 c := by
        intro c hc huc
        obtain ⟨d1, d2, d3⟩ := hd c hc huc
        have nc : nxt u X Y c < 40 := sideFacing_lt _ _ _ _ _ _ (by omega)
        refine ⟨?_, ?_, fun hp => ?_⟩
        · rw [hP1]; exact join_keep (by decide) g1.1 (by omega) (by omega) (by omega) (by omega) d1
        · rw [hP2]; exact join_keep (by decide) g2.1 (by omega) (by omega) (by omega) (by omega) d2
        · have s1 : f_M_sideFacing u X Y c 0 1 < 40 := sideFacing_lt _ _ _ _ _ _ (by omega)
          have s2 := sideAbove_lt u X Y (X c) (Y c)
          rw [hP1]; exact join_keep (by decide) g1.1 (by omega) (by omega) (by omega) s2 (d3 hp)
      have j1 : P1 a = P1 (nxt u X Y a) := by rw [hP1]; exact join_both (by decide) g1.1 (by omega) (by omega)
      have j2 : P2 (a / 2) = P2 (nxt u X Y a / 2) := by rw [hP2]; exact join_both (by decide) g2.1 (by omega) (by omega)
      show Gd 41 (fl_A_regroup u X Y L1 L2 n (a + 1) (f_A_joinWithWhatIsAbove u X Y P1 P2 a).1 (f_A_joinWithWhatIsAbove u X Y P1 P2 a).2).1 (GF u X Y) ∧ Gd 20 (fl_A_regroup u X Y L1 L2 n (a + 1) (f_A_joinWithWhatIsAbove u X Y P1 P2 a).1 (f_A_joinWithWhatIsAbove u X Y P1 P2 a).2).2 (GP u X Y) ∧ ∀ c, c < 40 → Done u X Y (fl_A_regroup u X Y L1 L2 n (a + 1) (f_A_joinWithWhatIsAbove u X Y P1 P2 a).1 (f_A_joinWithWhatIsAbove u X Y P1 P2 a).2).1 (fl_A_regroup u X Y L1 L2 n (a + 1) (f_A_joinWithWhatIsAbove u X Y P1 P2 a).1 (f_A_joinWithWhatIsAbove u X Y P1 P2 a).2).2 c
      unfold f_A_joinWithWhatIsAbove
      by_cases c2 : f_M_startsAtPeak u X Y a = true
      · rw [if_pos c2]
        have s1 : f_M_sideFacing u X Y a 0 1 < 40 := sideFacing_lt _ _ _ _ _ _ ha
        have s2 := sideAbove_lt u X Y (X a) (Y a)
        obtain ⟨Q1, hQ1⟩ : ∃ Q, Q = f_G_join 41 P1 (f_M_sideFacing u X Y a 0 1) (f_M_sideAbove u X Y (f_M_tailX u X Y a) (f_M_tailY u X Y a)) := ⟨_, rfl⟩
        rw [← hQ1]
        have s2' : f_M_sideAbove u X Y (f_M_tailX u X Y a) (f_M_tailY u X Y a) < 41 := s2
        have l1 : Gd 41 Q1 (GF u X Y) := by
          rw [hQ1]
          refine Gd_join (by decide) GR_eqv k1 (by omega) s2' ?_
          intro R h1 h2 h3
          have := h3 a ha hu ((peak_iff hY).mp c2)
          rw [sfn_up, sab_at (Is_tI hX ha) (Is_tI hY ha)] at this
          exact this
        refine ih (a + 1) Q1 P2 (by omega) l1 k2 (fun c hc huc => ?_)
        have nc : nxt u X Y c < 40 := sideFacing_lt _ _ _ _ _ _ (by omega)
        have r1 : f_M_sideFacing u X Y c 0 1 < 40 := sideFacing_lt _ _ _ _ _ _ (by omega)
        have r2 := sideAbove_lt u X Y (X c) (Y c)
        by_cases e : c = a
        · subst e
          refine ⟨?_, j2, fun _ => ?_⟩
          · rw [hQ1]; exact join_keep (by decide) k1.1 (by omega) s2' (by omega) (by omega) j1
          · rw [hQ1]; exact join_both (by decide) k1.1 (by omega) s2'
        · obtain ⟨d1, d2, d3⟩ := keep c (by omega) huc
          refine ⟨?_, d2, fun hp => ?_⟩
          · rw [hQ1]; exact join_keep (by decide) k1.1 (by omega) s2' (by omega) (by omega) d1
          · rw [hQ1]; exact join_keep (by decide) k1.1 (by omega) s2' (by omega) r2 (d3 hp)
      · rw [if_neg c2]
        refine ih (a + 1) P1 P2 (by omega) k1 k2 (fun c hc huc => ?_)
        by_cases e : c = a
        · subst e; exact ⟨j1, j2, fun z => absurd z c2⟩
        · exact keep c (by omega) huc
    · rw [if_neg c1]
      refine ih (a + 1) M1 M2 (by omega) g1 g2 (fun c hc huc => ?_)
      by_cases e : c = a
      · subst e; exact absurd huc c1
      · exact hd c (by omega) huc
/-- the names tell who is together -/
def Nm (N : Nat) (L : Nat → Nat) (R : Nat → Nat → Prop) : Prop := Led N L ∧ ∀ p q, p < N → q < N → (L p = L q ↔ R p q)
theorem regroup_ok (hX : Bd X) (hY : Bd Y) (L1 L2 : Nat → Nat) : Nm 41 (f_A_regroup u X Y L1 L2).1 (GF u X Y) ∧ Nm 20 (f_A_regroup u X Y L1 L2).2 (GP u X Y) := by
  obtain ⟨g1, g2, hd⟩ := regroup_fl (u := u) hX hY L1 L2 40 0 _ _ rfl (Gd_scatter (N := 41) L1 (GR_eqv (u := u) (tx := tI X) (ty := tI Y) (SFn := sfn u X Y) (SAb := sab u X Y))) (Gd_scatter (N := 20) L2 (GP_eqv (u := u) (X := X) (Y := Y))) (fun c hc => by omega)
  change Gd 41 (f_A_regroup u X Y L1 L2).1 (GF u X Y) at g1
  change Gd 20 (f_A_regroup u X Y L1 L2).2 (GP u X Y) at g2
  change ∀ c, c < 40 → Done u X Y (f_A_regroup u X Y L1 L2).1 (f_A_regroup u X Y L1 L2).2 c at hd
  generalize (f_A_regroup u X Y L1 L2).1 = M1 at g1 hd ⊢
  generalize (f_A_regroup u X Y L1 L2).2 = M2 at g2 hd ⊢
  have eqv : ∀ (N : Nat) (M : Nat → Nat), Eqv (fun a b => a = b ∨ (a < N ∧ b < N ∧ M a = M b)) := by
    intro N M
    refine ⟨fun _ => Or.inl rfl, ?_, ?_⟩
    · rintro a b (h | ⟨h1, h2, h3⟩)
      · exact Or.inl h.symm
      · exact Or.inr ⟨h2, h1, h3.symm⟩
    · rintro a b c (h | ⟨h1, h2, h3⟩) g
      · subst h; exact g
      · rcases g with g | ⟨g1, g2, g3⟩
        · subst g; exact Or.inr ⟨h1, h2, h3⟩
        · exact Or.inr ⟨h1, g2, h3.trans g3⟩
  refine ⟨⟨g1.1, fun p q hp hq => ⟨g1.2 p q hp hq, fun h => ?_⟩⟩, g2.1, fun p q hp hq => ⟨g2.2 p q hp hq, fun h => ?_⟩⟩
  · have k1 : J1 u (tI X) (tI Y) (sfn u X Y) (fun a b => a = b ∨ (a < 41 ∧ b < 41 ∧ M1 a = M1 b)) := fun a ha hu => by
      rw [sfn_step hX hY ha]
      have nc : nxt u X Y a < 40 := sideFacing_lt _ _ _ _ _ _ ha
      exact Or.inr ⟨by omega, Nat.lt_of_lt_of_le nc (by omega), (hd a ha hu).1⟩
    have k2 : J2 u (tI X) (tI Y) (sfn u X Y) (sab u X Y) (fun a b => a = b ∨ (a < 41 ∧ b < 41 ∧ M1 a = M1 b)) := fun a ha hu hp => by
      rw [sfn_up, sab_at (Is_tI hX ha) (Is_tI hY ha)]
      have s1 : f_M_sideFacing u X Y a 0 1 < 40 := sideFacing_lt _ _ _ _ _ _ ha
      exact Or.inr ⟨by omega, sideAbove_lt u X Y (X a) (Y a), (hd a ha hu).2.2 ((peak_iff hY).mpr hp)⟩
    rcases h _ (eqv 41 M1) k1 k2 with e | ⟨_, _, e⟩
    · rw [e]
    · exact e
  · have k1 : ∀ a, a < 40 → u (a / 2) = true → (fun a b => a = b ∨ (a < 20 ∧ b < 20 ∧ M2 a = M2 b)) (a / 2) (nxt u X Y a / 2) := fun a ha hu => by
      have nc : nxt u X Y a < 40 := sideFacing_lt _ _ _ _ _ _ ha
      exact Or.inr ⟨by omega, by omega, (hd a ha hu).2.1⟩
    rcases h _ (eqv 20 M2) k1 with e | ⟨_, _, e⟩
    · rw [e]
    · exact e
end RG
