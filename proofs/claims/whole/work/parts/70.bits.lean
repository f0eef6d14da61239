/-! The reference's sets of segments, bit by bit -/
def tb (s : Int32) (m : Nat) : Bool := s.toBitVec.toNat.testBit m
theorem one_shl : ∀ n, n < 20 → ((1 : Int32) <<< (nI n &&& 31)).toBitVec.toNat = 2 ^ n := by decide +kernel
theorem one_shl1 : ∀ n, n < 20 → (((1 : Int32) <<< (nI n &&& 31)) - 1).toBitVec.toNat = 2 ^ n - 1 := by decide +kernel
theorem sh_amt : ∀ m, m < 20 → ((nI m &&& 31).toBitVec.smod 32).toNat = m := by decide +kernel
theorem tb_or (s : Int32) {n : Nat} (hn : n < 20) (m : Nat) : tb (s ||| ((1 : Int32) <<< (nI n &&& 31))) m = (tb s m || decide (n = m)) := by
  unfold tb
  rw [Int32.toBitVec_or, BitVec.toNat_or, Nat.testBit_or, one_shl n hn, Nat.testBit_two_pow]
theorem tb_one {n : Nat} (hn : n < 20) (m : Nat) : tb ((1 : Int32) <<< (nI n &&& 31)) m = decide (n = m) := by
  unfold tb
  rw [one_shl n hn, Nat.testBit_two_pow]
theorem tb_test (s : Int32) {m : Nat} (hm : m < 20) : ((s >>> (nI m &&& 31)) &&& 1) = 1 ↔ tb s m = true := by
  rw [← Int32.toBitVec_inj]
  have e : ((s >>> (nI m &&& 31)) &&& 1).toBitVec = (s.toBitVec.sshiftRight m) &&& 1#32 := by
    rw [Int32.toBitVec_and, Int32.toBitVec_shiftRight, BitVec.sshiftRight_eq', sh_amt m hm]; rfl
  rw [e]
  have h0 : (s.toBitVec.sshiftRight m).getLsbD 0 = tb s m := by
    rw [BitVec.getLsbD_sshiftRight]
    rw [if_pos (by omega)]
    show (!decide (32 ≤ 0) && s.toBitVec.getLsbD (m + 0)) = _
    rw [show decide (32 ≤ 0) = false from rfl]
    rfl
  rw [← h0]
  generalize s.toBitVec.sshiftRight m = v
  rw [← BitVec.toNat_inj, BitVec.toNat_and]
  show v.toNat &&& 1 = 1 ↔ v.toNat.testBit 0 = true
  rw [Nat.and_one_is_mod, Nat.testBit_zero]
  exact (decide_eq_true_iff).symm
theorem tb_low (s : Int32) {k : Nat} (hk : k < 20) : (s &&& (((1 : Int32) <<< (nI k &&& 31)) - 1)) = 0 ↔ ∀ m, m < k → tb s m = false := by
  rw [← Int32.toBitVec_inj, ← BitVec.toNat_inj, Int32.toBitVec_and, BitVec.toNat_and, one_shl1 k hk]
  show s.toBitVec.toNat &&& (2 ^ k - 1) = 0 ↔ _
  constructor
  · intro h m hm
    have := congrArg (fun z => Nat.testBit z m) h
    simp only [Nat.testBit_and, Nat.testBit_two_pow_sub_one, Nat.zero_testBit, hm, decide_true, Bool.and_true] at this
    exact this
  · intro h
    apply Nat.eq_of_testBit_eq
    intro m
    rw [Nat.testBit_and, Nat.testBit_two_pow_sub_one, Nat.zero_testBit]
    by_cases c : m < k
    · have := h m c
      unfold tb at this
      rw [this]; rfl
    · rw [decide_eq_false c, Bool.and_false]
section PB
variable {u : Nat → Bool} {aX aY bX bY : Nat → Int32}
def tN (s : Int32) : Nat := s.toBitVec.toNat
theorem p3_ok {i2 : Nat} (h2 : i2 < 20) : ∀ n i3 s, n + i3 = 20 → tN s ≤ tN (fl_R_partOf_3 u aX aY bX bY i2 n i3 s) ∧ (tN s < 2 ^ 20 → tN (fl_R_partOf_3 u aX aY bX bY i2 n i3 s) < 2 ^ 20) ∧ (∀ m, tb s m = true → tb (fl_R_partOf_3 u aX aY bX bY i2 n i3 s) m = true) ∧ (∀ j, i3 ≤ j → j < 20 → u i2 = true → tb s j = true → f_R_touch u aX aY bX bY j i2 = true → tb (fl_R_partOf_3 u aX aY bX bY i2 n i3 s) i2 = true) ∧ (∀ C : Nat → Prop, (∀ j, j < 20 → u i2 = true → C j → f_R_touch u aX aY bX bY j i2 = true → C i2) → (∀ m, tb s m = true → C m) → ∀ m, tb (fl_R_partOf_3 u aX aY bX bY i2 n i3 s) m = true → C m) := by
  intro n
  induction n with
  | zero => intro i3 s h; exact ⟨Nat.le_refl _, id, fun _ z => z, fun j h1 h2 => by omega, fun C _ hc => hc⟩
  | succ n ih =>
    intro i3 s h
    show tN s ≤ tN (fb_R_partOf_3 u aX aY bX bY i2 (fl_R_partOf_3 u aX aY bX bY i2 n) i3 s) ∧ (_ → tN (fb_R_partOf_3 u aX aY bX bY i2 (fl_R_partOf_3 u aX aY bX bY i2 n) i3 s) < _) ∧ (∀ m, _ → tb (fb_R_partOf_3 u aX aY bX bY i2 (fl_R_partOf_3 u aX aY bX bY i2 n) i3 s) m = true) ∧ (∀ j, _ → _ → _ → _ → _ → tb (fb_R_partOf_3 u aX aY bX bY i2 (fl_R_partOf_3 u aX aY bX bY i2 n) i3 s) i2 = true) ∧ (∀ C : Nat → Prop, _ → _ → ∀ m, tb (fb_R_partOf_3 u aX aY bX bY i2 (fl_R_partOf_3 u aX aY bX bY i2 n) i3 s) m = true → C m)
    unfold fb_R_partOf_3
    have i3' : i3 < 20 := by omega
    have keep : (u i2 = true → tb s i3 = true → ¬ f_R_touch u aX aY bX bY i3 i2 = true) → tN s ≤ tN (fl_R_partOf_3 u aX aY bX bY i2 n (i3 + 1) s) ∧ (tN s < 2 ^ 20 → tN (fl_R_partOf_3 u aX aY bX bY i2 n (i3 + 1) s) < 2 ^ 20) ∧ (∀ m, tb s m = true → tb (fl_R_partOf_3 u aX aY bX bY i2 n (i3 + 1) s) m = true) ∧ (∀ j, i3 ≤ j → j < 20 → u i2 = true → tb s j = true → f_R_touch u aX aY bX bY j i2 = true → tb (fl_R_partOf_3 u aX aY bX bY i2 n (i3 + 1) s) i2 = true) ∧ (∀ C : Nat → Prop, (∀ j, j < 20 → u i2 = true → C j → f_R_touch u aX aY bX bY j i2 = true → C i2) → (∀ m, tb s m = true → C m) → ∀ m, tb (fl_R_partOf_3 u aX aY bX bY i2 n (i3 + 1) s) m = true → C m) := fun hno => by
      obtain ⟨a, b, c, d, e⟩ := ih (i3 + 1) s (by omega)
      refine ⟨a, b, c, fun j h1 h2 h3 h4 h5 => ?_, e⟩
      by_cases z : j = i3
      · rw [z] at h4 h5; exact absurd h5 (hno h3 h4)
      · exact d j (by omega) h2 h3 h4 h5
    by_cases c1 : u i2 = true
    · rw [if_pos c1]
      by_cases c2 : ((s >>> (nI (i3) &&& 31)) &&& 1) = 1
      · rw [if_pos c2]
        have c2' := (tb_test s i3').mp c2
        by_cases c3 : f_R_touch u aX aY bX bY i3 i2 = true
        · rw [if_pos c3]
          obtain ⟨a, b, c, d, e⟩ := ih (i3 + 1) (s ||| (1 <<< (nI (i2) &&& 31))) (by omega)
          have g1 : ∀ m, tb s m = true → tb (s ||| ((1 : Int32) <<< (nI i2 &&& 31))) m = true := fun m hm => by rw [tb_or s h2, hm]; rfl
          have g2 : tb (s ||| ((1 : Int32) <<< (nI i2 &&& 31))) i2 = true := by rw [tb_or s h2, decide_eq_true rfl, Bool.or_true]
          refine ⟨Nat.le_trans (or_ge (Nat.le_refl _) _) a, fun hs => b (or_lt hs i2 h2), fun m hm => c m (g1 m hm), fun j _ _ _ _ _ => c i2 g2, fun C hC hc => e C hC (fun m hm => ?_)⟩
          rw [tb_or s h2] at hm
          rcases Bool.or_eq_true_iff.mp hm with z | z
          · exact hc m z
          · rw [← of_decide_eq_true z]; exact hC i3 i3' c1 (hc i3 c2') c3
        · rw [if_neg c3]; exact keep (fun _ _ => c3)
      · rw [if_neg c2]; exact keep (fun _ z => absurd ((tb_test s i3').mpr z) c2)
    · rw [if_neg c1]; exact keep (fun z => absurd z c1)
theorem p2_ok : ∀ n i2 s, n + i2 = 20 → tN s ≤ tN (fl_R_partOf_2 u aX aY bX bY n i2 s) ∧ (tN s < 2 ^ 20 → tN (fl_R_partOf_2 u aX aY bX bY n i2 s) < 2 ^ 20) ∧ (∀ m, tb s m = true → tb (fl_R_partOf_2 u aX aY bX bY n i2 s) m = true) ∧ (∀ i j, i2 ≤ i → i < 20 → j < 20 → u i = true → tb s j = true → f_R_touch u aX aY bX bY j i = true → tb (fl_R_partOf_2 u aX aY bX bY n i2 s) i = true) ∧ (∀ C : Nat → Prop, (∀ i j, i < 20 → j < 20 → u i = true → C j → f_R_touch u aX aY bX bY j i = true → C i) → (∀ m, tb s m = true → C m) → ∀ m, tb (fl_R_partOf_2 u aX aY bX bY n i2 s) m = true → C m) := by
  intro n
  induction n with
  | zero => intro i2 s h; exact ⟨Nat.le_refl _, id, fun _ z => z, fun i j h1 h2 => by omega, fun C _ hc => hc⟩
  | succ n ih =>
    intro i2 s h
    show tN s ≤ tN (fl_R_partOf_2 u aX aY bX bY n (i2 + 1) (fl_R_partOf_3 u aX aY bX bY i2 20 0 s)) ∧ (_ → tN (fl_R_partOf_2 u aX aY bX bY n (i2 + 1) (fl_R_partOf_3 u aX aY bX bY i2 20 0 s)) < _) ∧ (∀ m, _ → tb (fl_R_partOf_2 u aX aY bX bY n (i2 + 1) (fl_R_partOf_3 u aX aY bX bY i2 20 0 s)) m = true) ∧ (∀ i j, _ → _ → _ → _ → _ → _ → tb (fl_R_partOf_2 u aX aY bX bY n (i2 + 1) (fl_R_partOf_3 u aX aY bX bY i2 20 0 s)) i = true) ∧ (∀ C : Nat → Prop, _ → _ → ∀ m, tb (fl_R_partOf_2 u aX aY bX bY n (i2 + 1) (fl_R_partOf_3 u aX aY bX bY i2 20 0 s)) m = true → C m)
    obtain ⟨a, b, c, d, e⟩ := p3_ok (u := u) (aX := aX) (aY := aY) (bX := bX) (bY := bY) (i2 := i2) (by omega) 20 0 s rfl
    obtain ⟨a2, b2, c2, d2, e2⟩ := ih (i2 + 1) (fl_R_partOf_3 u aX aY bX bY i2 20 0 s) (by omega)
    refine ⟨Nat.le_trans a a2, fun hs => b2 (b hs), fun m hm => c2 m (c m hm), fun i j h1 h2 h3 h4 h5 h6 => ?_, fun C hC hc => e2 C hC (e C (fun j hj => hC i2 j (by omega) hj) hc)⟩
    by_cases z : i = i2
    · rw [z] at h4 h6 ⊢; exact c2 i2 (d j (by omega) h3 h4 h5 h6)
    · exact d2 i j (by omega) h2 h3 h4 (c j h5) h6
/-- the outer loop ends at a set that no longer grows -/
theorem p1_ok {C : Nat → Prop} (hC : ∀ i j, i < 20 → j < 20 → u i = true → C j → f_R_touch u aX aY bX bY j i = true → C i) {k : Nat} : ∀ n s b, 2 ^ 20 ≤ tN b + n → tN s < 2 ^ 20 → s = fl_R_partOf_2 u aX aY bX bY 20 0 b → tb s k = true → (∀ m, tb s m = true → C m) → fl_R_partOf_2 u aX aY bX bY 20 0 (fl_R_partOf_1 u aX aY bX bY n s b).1 = (fl_R_partOf_1 u aX aY bX bY n s b).1 ∧ tb (fl_R_partOf_1 u aX aY bX bY n s b).1 k = true ∧ ∀ m, tb (fl_R_partOf_1 u aX aY bX bY n s b).1 m = true → C m := by
  intro n
  induction n with
  | zero =>
    intro s b h1 h2 h3 h4 h5
    exfalso
    have := (p2_ok (u := u) (aX := aX) (aY := aY) (bX := bX) (bY := bY) 20 0 b rfl).1
    rw [← h3] at this
    omega
  | succ n ih =>
    intro s b h1 h2 h3 h4 h5
    show fl_R_partOf_2 u aX aY bX bY 20 0 (fb_R_partOf_1 u aX aY bX bY (fl_R_partOf_1 u aX aY bX bY n) s b).1 = (fb_R_partOf_1 u aX aY bX bY (fl_R_partOf_1 u aX aY bX bY n) s b).1 ∧ tb (fb_R_partOf_1 u aX aY bX bY (fl_R_partOf_1 u aX aY bX bY n) s b).1 k = true ∧ ∀ m, tb (fb_R_partOf_1 u aX aY bX bY (fl_R_partOf_1 u aX aY bX bY n) s b).1 m = true → C m
    unfold fb_R_partOf_1
    have g := p2_ok (u := u) (aX := aX) (aY := aY) (bX := bX) (bY := bY) 20 0 b rfl
    have g2 := p2_ok (u := u) (aX := aX) (aY := aY) (bX := bX) (bY := bY) 20 0 s rfl
    by_cases c : s = b
    · rw [if_pos c]
      exact ⟨by show fl_R_partOf_2 u aX aY bX bY 20 0 s = s; rw [c, ← h3, c], h4, h5⟩
    · rw [if_neg c]
      have lt : tN b < tN s := by
        have q := g.1
        rw [← h3] at q
        rcases Nat.lt_or_ge (tN b) (tN s) with z | z
        · exact z
        · exact absurd (Int32.toBitVec_inj.mp (BitVec.eq_of_toNat_eq (show s.toBitVec.toNat = b.toBitVec.toNat by unfold tN at q z; omega))) c
      exact ih _ s (by omega) (g2.2.1 h2) rfl (g2.2.2.1 k h4) (g2.2.2.2.2 C hC h5)
theorem partOf_ok {k : Nat} (hk : k < 20) : (∀ i j, i < 20 → j < 20 → u i = true → tb (f_R_partOf u aX aY bX bY k) j = true → f_R_touch u aX aY bX bY j i = true → tb (f_R_partOf u aX aY bX bY k) i = true) ∧ tb (f_R_partOf u aX aY bX bY k) k = true ∧ ∀ C : Nat → Prop, (∀ i j, i < 20 → j < 20 → u i = true → C j → f_R_touch u aX aY bX bY j i = true → C i) → C k → ∀ m, tb (f_R_partOf u aX aY bX bY k) m = true → C m := by
  have st : ∀ C : Nat → Prop, (∀ i j, i < 20 → j < 20 → u i = true → C j → f_R_touch u aX aY bX bY j i = true → C i) → C k → fl_R_partOf_2 u aX aY bX bY 20 0 (f_R_partOf u aX aY bX bY k) = f_R_partOf u aX aY bX bY k ∧ tb (f_R_partOf u aX aY bX bY k) k = true ∧ ∀ m, tb (f_R_partOf u aX aY bX bY k) m = true → C m := by
    intro C hC ck
    have one : tb ((1 : Int32) <<< (nI k &&& 31)) k = true := by rw [tb_one hk]; exact decide_eq_true rfl
    have c0 : ∀ m, tb ((1 : Int32) <<< (nI k &&& 31)) m = true → C m := fun m hm => by
      rw [tb_one hk] at hm
      rw [← of_decide_eq_true hm]; exact ck
    have ne : ¬ ((1 : Int32) <<< (nI k &&& 31)) = 0 := fun z => by
      rw [z] at one
      unfold tb at one
      rw [show (0 : Int32).toBitVec.toNat = 0 from rfl, Nat.zero_testBit] at one
      cases one
    have g2 := p2_ok (u := u) (aX := aX) (aY := aY) (bX := bX) (bY := bY) 20 0 ((1 : Int32) <<< (nI k &&& 31)) rfl
    have e : f_R_partOf u aX aY bX bY k = (fl_R_partOf_1 u aX aY bX bY 1048575 (fl_R_partOf_2 u aX aY bX bY 20 0 ((1 : Int32) <<< (nI k &&& 31))) ((1 : Int32) <<< (nI k &&& 31))).1 := by
      show (fb_R_partOf_1 u aX aY bX bY (fl_R_partOf_1 u aX aY bX bY 1048575) ((1 : Int32) <<< (nI k &&& 31)) 0).1 = _
      unfold fb_R_partOf_1
      rw [if_neg ne]
    rw [e]
    have t1 : 1 ≤ tN ((1 : Int32) <<< (nI k &&& 31)) := by
      unfold tN; rw [one_shl k hk]; exact Nat.one_le_two_pow
    exact p1_ok hC 1048575 _ _ (by omega) (g2.2.1 (bit_lt k hk)) rfl (g2.2.2.1 k one) (g2.2.2.2.2 C hC c0)
  have s0 := st (fun _ => True) (fun _ _ _ _ _ _ _ => trivial) trivial
  refine ⟨fun i j hi hj hu h1 h2 => ?_, s0.2.1, fun C hC ck => (st C hC ck).2.2⟩
  have := (p2_ok (u := u) (aX := aX) (aY := aY) (bX := bX) (bY := bY) 20 0 (f_R_partOf u aX aY bX bY k) rfl).2.2.2.1 i j (by omega) hi hj hu h1 h2
  rw [s0.1] at this
  exact this
end PB
section PC
variable {u : Nat → Bool} {X Y : Nat → Int32} {L1 L2 : Nat → Nat}
theorem partOf_GP (hG : Geo u (tI X) (tI Y)) (hX : Bd X) (hY : Bd Y) {k j : Nat} (hk : k < 20) (uk : u k = true) : tb (f_R_partOf u (eX X) (eX Y) (oX X) (oX Y) k) j = true ↔ GP u X Y k j := by
  obtain ⟨a, b, c⟩ := partOf_ok (u := u) (aX := eX X) (aY := eX Y) (bX := oX X) (bY := oX Y) hk
  constructor
  · intro h
    have := c (fun m => m < 20 ∧ u m = true ∧ GP u X Y k m) (fun i j hi hj hu hc ht => ⟨hi, hu, GP_eqv.2.2 _ _ _ hc.2.2 (touch_GP hG hX hY hj hi hc.2.1 hu ht)⟩) ⟨hk, uk, GP_eqv.1 _⟩ j h
    exact this.2.2
  · intro h
    exact (GP_closed (u := u) (X := X) (Y := Y) (C := fun m => tb (f_R_partOf u (eX X) (eX Y) (oX X) (oX Y) k) m = true) (fun p q hp hq _ uq hc ht => a q p hq hp uq hc ht) h).mp b
theorem cnt_A {N : Nat} (P : Nat → Bool) (fl : Nat → Nat → Nat → Nat) (h0 : ∀ k c, fl 0 k c = c) (h1 : ∀ n k c, n + 1 + k = N → fl (n + 1) k c = fl n (k + 1) (c + if P k = true then 1 else 0)) : ∀ n k, n + k = N → ∀ c, fl n k (c + cnt P k) = c + cnt P N := by
  intro n
  induction n with
  | zero => intro k h c; rw [h0, show k = N by omega]
  | succ n ih =>
    intro k h c
    rw [h1 n k _ h, Nat.add_assoc]
    exact ih (k + 1) (by omega) c
theorem parts_A : f_A_parts u X Y L1 L2 = cnt (fun k => u k && f_G_isLeader 20 L2 k) 20 := by
  have := cnt_A (N := 20) (fun k => u k && f_G_isLeader 20 L2 k) (fl_A_parts u X Y L1 L2) (fun _ _ => rfl) (fun n k c h => by
    show fb_A_parts u X Y L1 L2 (fl_A_parts u X Y L1 L2 n) k c = _
    unfold fb_A_parts
    rw [has_nI (by omega)]
    cases h1 : u k
    · rw [if_neg (by decide), Bool.false_and, if_neg (by decide)]; rfl
    · rw [if_pos rfl, Bool.true_and]
      split
      · rfl
      · rfl) 20 0 rfl 0
  rw [Nat.zero_add, Nat.zero_add] at this
  exact this
theorem parts_R {aX aY bX bY : Nat → Int32} : f_R_parts u aX aY bX bY = cnt (fun k => u k && decide ((f_R_partOf u aX aY bX bY k &&& (((1 : Int32) <<< (nI k &&& 31)) - 1)) = 0)) 20 := by
  have := cnt_A (N := 20) (fun k => u k && decide ((f_R_partOf u aX aY bX bY k &&& (((1 : Int32) <<< (nI k &&& 31)) - 1)) = 0)) (fl_R_parts_1 u aX aY bX bY) (fun _ _ => rfl) (fun n k c h => by
    show fb_R_parts_1 u aX aY bX bY (fl_R_parts_1 u aX aY bX bY n) k c = _
    unfold fb_R_parts_1
    cases h1 : u k
    · rw [if_neg (by decide), Bool.false_and, if_neg (by decide)]; rfl
    · rw [if_pos rfl, Bool.true_and, ifc decide_eq_true_iff]
      split
      · rfl
      · rfl) 20 0 rfl 0
  rw [Nat.zero_add, Nat.zero_add] at this
  exact this
theorem lead_iff {N : Nat} {L : Nat → Nat} (hL : Led N L) (hN : N < 100) {i : Nat} (hi : i < N) : f_G_isLeader N L i = true ↔ L i = i := by
  have := (hL i hi).1
  unfold f_G_isLeader
  rw [ite_p, nI_eq (by omega) (by omega)]
theorem ex_least {P : Nat → Prop} {n : Nat} (h : P n) : ∃ k, P k ∧ ∀ j, P j → k ≤ j := by
  obtain ⟨k, ⟨hk, hkn⟩, hm⟩ := ex_min (P := fun k => P k ∧ k ≤ n) (f := fun k => (k : Int)) (n + 1) (fun k hk => by have := hk.2; omega) ⟨n, h, Nat.le_refl _⟩
  refine ⟨k, hk, fun j hj => ?_⟩
  rcases Nat.le_total j n with q | q
  · have := hm j ⟨hj, q⟩; omega
  · omega
theorem parts_eq (hG : Geo u (tI X) (tI Y)) (hX : Bd X) (hY : Bd Y) (hL : Nm 20 L2 (GP u X Y)) : f_A_parts u X Y L1 L2 = f_R_parts u (eX X) (eX Y) (oX X) (oX Y) := by
  rw [parts_A, parts_R]
  have low : ∀ k, k < 20 → u k = true → (decide ((f_R_partOf u (eX X) (eX Y) (oX X) (oX Y) k &&& (((1 : Int32) <<< (nI k &&& 31)) - 1)) = 0) = true ↔ ∀ m, GP u X Y k m → k ≤ m) := fun k hk uk => by
    rw [decide_eq_true_iff, tb_low _ hk]
    constructor
    · intro q m hm
      apply Decidable.byContradiction
      intro c
      have := q m (by omega)
      rw [(partOf_GP hG hX hY hk uk).mpr hm] at this
      cases this
    · intro q m hm
      apply (bt (P := GP u X Y k m) (partOf_GP hG hX hY hk uk)).mpr
      intro z; have := q m z; omega
  have ex : ∀ k, ∃ m, GP u X Y k m ∧ ∀ j, GP u X Y k j → m ≤ j := fun k => ex_least (GP_eqv.1 k)
  have und : ∀ {a b : Bool}, (a && b) = true ↔ a = true ∧ b = true := fun {a b} => by cases a <;> cases b <;> decide
  refine cnt_eq (fun k => Classical.choose (ex k)) L2 (fun k hk hp => ?_) (fun i j hi hj hpi hpj e => ?_) (fun k hk hp => ?_) (fun i j hi hj hpi hpj e => ?_)
  · obtain ⟨uk, _⟩ := und.mp hp
    obtain ⟨c1, c2⟩ := Classical.choose_spec (ex k)
    have us := (GP_used c1).mp ⟨hk, uk⟩
    refine ⟨us.1, und.mpr ⟨us.2, (low _ us.1 us.2).mpr (fun m hm => c2 m (GP_eqv.2.2 _ _ _ c1 hm))⟩⟩
  · obtain ⟨ui, li⟩ := und.mp hpi
    obtain ⟨uj, lj⟩ := und.mp hpj
    have c1 := (Classical.choose_spec (ex i)).1
    have c2 := (Classical.choose_spec (ex j)).1
    have e : Classical.choose (ex i) = Classical.choose (ex j) := e
    rw [e] at c1
    have g := GP_eqv.2.2 _ _ _ c1 (GP_eqv.2.1 _ _ c2)
    have := (hL.2 i j hi hj).mpr g
    rw [(lead_iff hL.1 (by decide) hi).mp li, (lead_iff hL.1 (by decide) hj).mp lj] at this
    exact this
  · obtain ⟨uk, _⟩ := und.mp hp
    obtain ⟨l1, l2⟩ := hL.1 k hk
    have g := (hL.2 k (L2 k) hk l1).mp l2.symm
    have us := (GP_used g).mp ⟨hk, uk⟩
    exact ⟨l1, und.mpr ⟨us.2, (lead_iff hL.1 (by decide) l1).mpr l2⟩⟩
  · obtain ⟨ui, li⟩ := und.mp hpi
    obtain ⟨uj, lj⟩ := und.mp hpj
    have g := (hL.2 i j hi hj).mp e
    have a := (low i hi ui).mp li j g
    have b := (low j hj uj).mp lj i (GP_eqv.2.1 _ _ g)
    omega
end PC
