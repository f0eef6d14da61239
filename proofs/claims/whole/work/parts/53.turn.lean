/-! Directions, in the order in which one meets them turning left -/
def cr (px py qx qy : Int) : Int := px * qy - py * qx
def rk (dx dy px py : Int) : Nat := if cr dx dy px py = 0 then (if dx * px + dy * py < 0 then 2 else 4) else if 0 < cr dx dy px py then 1 else 3
/-- b is met ahead of c, turning left from d -/
def dom (dx dy bx b2 cx cy : Int) : Prop := rk dx dy bx b2 < rk dx dy cx cy ∨ (rk dx dy bx b2 = rk dx dy cx cy ∧ 0 < cr bx b2 cx cy)
theorem rk_1 {dx dy px py : Int} (h : 0 < cr dx dy px py) : rk dx dy px py = 1 := by unfold rk; rw [if_neg (by omega), if_pos h]
theorem rk_3 {dx dy px py : Int} (h : cr dx dy px py < 0) : rk dx dy px py = 3 := by unfold rk; rw [if_neg (by omega), if_neg (by omega)]
theorem rk_2 {dx dy px py : Int} (h : cr dx dy px py = 0) (h2 : dx * px + dy * py < 0) : rk dx dy px py = 2 := by unfold rk; rw [if_pos h, if_pos h2]
theorem rk_4 {dx dy px py : Int} (h : cr dx dy px py = 0) (h2 : ¬ dx * px + dy * py < 0) : rk dx dy px py = 4 := by unfold rk; rw [if_pos h, if_neg h2]
theorem cr_neg (px py qx qy : Int) : cr (-px) (-py) (-qx) (-qy) = cr px py qx qy := by unfold cr; grind
theorem cr_flip (px py qx qy : Int) : cr qx qy px py = -cr px py qx qy := by unfold cr; grind
theorem rk_neg (dx dy px py : Int) : rk (-dx) (-dy) (-px) (-py) = rk dx dy px py := by
  have e : -dx * -px + -dy * -py = dx * px + dy * py := by grind
  unfold rk; rw [cr_neg, e]
theorem dom_neg {dx dy bx b2 cx cy : Int} : dom (-dx) (-dy) (-bx) (-b2) (-cx) (-cy) ↔ dom dx dy bx b2 cx cy := by unfold dom; rw [rk_neg, rk_neg, cr_neg]
/-- three directions: a1 (b x c) = b1 (a x c) - c1 (a x b) -/
theorem cr_three (ax ay bx b2 cx cy : Int) : ax * cr bx b2 cx cy = bx * cr ax ay cx cy - cx * cr ax ay bx b2 := by unfold cr; grind
theorem cr_trans {ax ay bx b2 cx cy : Int} (ha : 0 < ax) (hb : 0 < bx) (hc : 0 < cx) (h1 : 0 < cr ax ay bx b2) (h2 : 0 < cr bx b2 cx cy) : 0 < cr ax ay cx cy := by
  have e := cr_three ax ay bx b2 cx cy
  have p1 := Int.mul_pos ha h2
  have p2 := Int.mul_pos hc h1
  exact (mp_pos hb).mp (by omega)
/-- same direction to the right: a product that isn't negative -/
theorem cr_same {dx dy px py : Int} (hd : 0 < dx) (hp : 0 < px) (h : cr dx dy px py = 0) : ¬ dx * px + dy * py < 0 := by
  intro q
  have e : dx * (dx * px + dy * py) = (dx * dx + dy * dy) * px := by unfold cr at h; grind
  have p1 := Int.mul_pos hd hd
  have p2 : 0 ≤ dy * dy := by
    rcases Int.le_total 0 dy with q | q
    · exact Int.mul_nonneg q q
    · exact Int.mul_nonneg_of_nonpos_of_nonpos q q
  have p3 := Int.mul_pos (show 0 < dx * dx + dy * dy by omega) hp
  have := (mp_neg hd).mpr q
  omega
theorem cr_opp {dx dy px py : Int} (hd : 0 < dx) (hp : px < 0) (h : cr dx dy px py = 0) : dx * px + dy * py < 0 := by
  have e : dx * (dx * px + dy * py) = (dx * dx + dy * dy) * px := by unfold cr at h; grind
  have p1 := Int.mul_pos hd hd
  have p2 : 0 ≤ dy * dy := by
    rcases Int.le_total 0 dy with q | q
    · exact Int.mul_nonneg q q
    · exact Int.mul_nonneg_of_nonpos_of_nonpos q q
  have p3 := Int.mul_neg_of_pos_of_neg (show 0 < dx * dx + dy * dy by omega) hp
  exact (mp_neg hd).mp (by omega)
theorem cr_u {px py qy : Int} : cr px py 0 qy = px * qy := by unfold cr; grind
theorem cr_v {py qx qy : Int} : cr 0 py qx qy = -(py * qx) := by unfold cr; grind
/-- ranks, seen from a direction to the right -/
theorem rR_le {dx dy cx cy : Int} (hd : 0 < dx) (hc : 0 < cx) (h : cr dx dy cx cy ≤ 0) : 3 ≤ rk dx dy cx cy := by
  rcases Int.lt_or_le (cr dx dy cx cy) 0 with q | q
  · rw [rk_3 q]; decide
  · have e : cr dx dy cx cy = 0 := by omega
    rw [rk_4 e (cr_same hd hc e)]; decide
theorem rR_up {dx dy cy : Int} (hd : 0 < dx) (hc : 0 < cy) : rk dx dy 0 cy = 1 := rk_1 (by rw [cr_u]; exact Int.mul_pos hd hc)
theorem rR_dn {dx dy cy : Int} (hd : 0 < dx) (hc : cy < 0) : rk dx dy 0 cy = 3 := rk_3 (by rw [cr_u]; exact Int.mul_neg_of_pos_of_neg hd hc)
/-- D1: the next one to the right, higher -/
theorem D1_hi {dx dy bx b2 cx cy : Int} (hd : 0 < dx) (hb : 0 < bx) (hc : 0 < cx) (h1 : 0 < cr dx dy bx b2) (h2 : 0 < cr bx b2 cx cy) : dom dx dy bx b2 cx cy := Or.inr ⟨by rw [rk_1 h1, rk_1 (cr_trans hd hb hc h1 h2)], h2⟩
theorem D1_lo {dx dy bx b2 cx cy : Int} (hd : 0 < dx) (hc : 0 < cx) (h1 : 0 < cr dx dy bx b2) (h2 : cr dx dy cx cy ≤ 0) : dom dx dy bx b2 cx cy := Or.inl (by rw [rk_1 h1]; have := rR_le hd hc h2; omega)
theorem D1_up {dx dy bx b2 cy : Int} (hd : 0 < dx) (hb : 0 < bx) (hc : 0 < cy) (h1 : 0 < cr dx dy bx b2) : dom dx dy bx b2 0 cy := Or.inr ⟨by rw [rk_1 h1, rR_up hd hc], by rw [cr_u]; exact Int.mul_pos hb hc⟩
theorem D1_dn {dx dy bx b2 cy : Int} (hd : 0 < dx) (hc : cy < 0) (h1 : 0 < cr dx dy bx b2) : dom dx dy bx b2 0 cy := Or.inl (by rw [rk_1 h1, rR_dn hd hc]; decide)
theorem D1_lf {dx dy bx b2 cx cy : Int} (hd : 0 < dx) (hb : 0 < bx) (hc : cx < 0) (h1 : 0 < cr dx dy bx b2) : dom dx dy bx b2 cx cy := by
  rcases Int.lt_trichotomy (cr dx dy cx cy) 0 with q | q | q
  · exact Or.inl (by rw [rk_1 h1, rk_3 q]; decide)
  · exact Or.inl (by rw [rk_1 h1, rk_2 q (cr_opp hd hc q)]; decide)
  · refine Or.inr ⟨by rw [rk_1 h1, rk_1 q], ?_⟩
    have e := cr_three dx dy bx b2 cx cy
    have p1 := Int.mul_pos hb q
    have p2 := Int.mul_neg_of_neg_of_pos hc h1
    exact (mp_pos hd).mp (by omega)
/-- D2: upwards -/
theorem D2_lo {dx dy b2 cx cy : Int} (hd : 0 < dx) (hb : 0 < b2) (hc : 0 < cx) (h2 : cr dx dy cx cy ≤ 0) : dom dx dy 0 b2 cx cy := Or.inl (by rw [rR_up hd hb]; have := rR_le hd hc h2; omega)
theorem D2_dn {dx dy b2 cy : Int} (hd : 0 < dx) (hb : 0 < b2) (hc : cy < 0) : dom dx dy 0 b2 0 cy := Or.inl (by rw [rR_up hd hb, rR_dn hd hc]; decide)
theorem D2_lf {dx dy b2 cx cy : Int} (hd : 0 < dx) (hb : 0 < b2) (hc : cx < 0) : dom dx dy 0 b2 cx cy := by
  rcases Int.lt_trichotomy (cr dx dy cx cy) 0 with q | q | q
  · exact Or.inl (by rw [rR_up hd hb, rk_3 q]; decide)
  · exact Or.inl (by rw [rR_up hd hb, rk_2 q (cr_opp hd hc q)]; decide)
  · refine Or.inr ⟨by rw [rR_up hd hb, rk_1 q], ?_⟩
    rw [cr_v]
    have := Int.mul_neg_of_pos_of_neg hb hc
    omega
/-- D3: to the left -/
theorem D3_lo {dx dy bx b2 cx cy : Int} (hd : 0 < dx) (hb : bx < 0) (hc : 0 < cx) (h2 : cr dx dy cx cy ≤ 0) : dom dx dy bx b2 cx cy := by
  have hc3 := rR_le hd hc h2
  rcases Int.lt_trichotomy (cr dx dy bx b2) 0 with q | q | q
  · -- both beyond half a turn
    rcases Int.lt_or_le (cr dx dy cx cy) 0 with q2 | q2
    · refine Or.inr ⟨by rw [rk_3 q, rk_3 q2], ?_⟩
      have e := cr_three dx dy bx b2 cx cy
      have p1 := Int.mul_pos_of_neg_of_neg hb q2
      have p2 := Int.mul_neg_of_pos_of_neg hc q
      exact (mp_pos hd).mp (by omega)
    · have e : cr dx dy cx cy = 0 := by omega
      exact Or.inl (by rw [rk_3 q, rk_4 e (cr_same hd hc e)]; decide)
  · exact Or.inl (by rw [rk_2 q (cr_opp hd hb q)]; omega)
  · exact Or.inl (by rw [rk_1 q]; omega)
theorem D3_dn {dx dy bx b2 cy : Int} (hd : 0 < dx) (hb : bx < 0) (hc : cy < 0) : dom dx dy bx b2 0 cy := by
  rcases Int.lt_trichotomy (cr dx dy bx b2) 0 with q | q | q
  · refine Or.inr ⟨by rw [rk_3 q, rR_dn hd hc], ?_⟩
    rw [cr_u]; exact Int.mul_pos_of_neg_of_neg hb hc
  · exact Or.inl (by rw [rk_2 q (cr_opp hd hb q), rR_dn hd hc]; decide)
  · exact Or.inl (by rw [rk_1 q, rR_dn hd hc]; decide)
theorem D3_lf {dx dy bx b2 cx cy : Int} (hd : 0 < dx) (hb : bx < 0) (hc : cx < 0) (h : 0 < cr bx b2 cx cy) : dom dx dy bx b2 cx cy := by
  have e := cr_three dx dy bx b2 cx cy
  have p0 := Int.mul_pos hd h
  rcases Int.lt_trichotomy (cr dx dy bx b2) 0 with q | q | q
  · have p2 := Int.mul_pos_of_neg_of_neg hc q
    have q2 : cr dx dy cx cy < 0 := by
      have : 0 < bx * cr dx dy cx cy := by omega
      rcases Int.lt_or_le (cr dx dy cx cy) 0 with z | z
      · exact z
      · have := Int.mul_nonneg (show 0 ≤ -bx by omega) z
        have e3 : -bx * cr dx dy cx cy = -(bx * cr dx dy cx cy) := by grind
        omega
    exact Or.inr ⟨by rw [rk_3 q, rk_3 q2], h⟩
  · have q2 : cr dx dy cx cy < 0 := by
      rw [q, Int.mul_zero] at e
      rcases Int.lt_or_le (cr dx dy cx cy) 0 with z | z
      · exact z
      · have := Int.mul_nonneg (show 0 ≤ -bx by omega) z
        have e3 : -bx * cr dx dy cx cy = -(bx * cr dx dy cx cy) := by grind
        omega
    exact Or.inl (by rw [rk_2 q (cr_opp hd hb q), rk_3 q2]; decide)
  · rcases Int.lt_trichotomy (cr dx dy cx cy) 0 with z | z | z
    · exact Or.inl (by rw [rk_1 q, rk_3 z]; decide)
    · exact Or.inl (by rw [rk_1 q, rk_2 z (cr_opp hd hc z)]; decide)
    · exact Or.inr ⟨by rw [rk_1 q, rk_1 z], h⟩
/-- D4: downwards -/
theorem D4_lo {dx dy b2 cx cy : Int} (hd : 0 < dx) (hb : b2 < 0) (hc : 0 < cx) (h2 : cr dx dy cx cy ≤ 0) : dom dx dy 0 b2 cx cy := by
  rcases Int.lt_or_le (cr dx dy cx cy) 0 with q2 | q2
  · refine Or.inr ⟨by rw [rR_dn hd hb, rk_3 q2], ?_⟩
    rw [cr_v]; have := Int.mul_neg_of_neg_of_pos hb hc; omega
  · have e : cr dx dy cx cy = 0 := by omega
    exact Or.inl (by rw [rR_dn hd hb, rk_4 e (cr_same hd hc e)]; decide)
/-- D5: all round, the lowest one to the right -/
theorem D5_lo {dx dy bx b2 cx cy : Int} (hd : 0 < dx) (hc : 0 < cx) (h1 : cr dx dy bx b2 < 0) (h2 : cr dx dy cx cy ≤ 0) (h : 0 < cr bx b2 cx cy) : dom dx dy bx b2 cx cy := by
  rcases Int.lt_or_le (cr dx dy cx cy) 0 with q2 | q2
  · exact Or.inr ⟨by rw [rk_3 h1, rk_3 q2], h⟩
  · have e : cr dx dy cx cy = 0 := by omega
    exact Or.inl (by rw [rk_3 h1, rk_4 e (cr_same hd hc e)]; decide)
/-- from straight up -/
theorem rU_lf {dy cx cy : Int} (hd : 0 < dy) (hc : cx < 0) : rk 0 dy cx cy = 1 := rk_1 (by rw [cr_v]; have := Int.mul_neg_of_pos_of_neg hd hc; omega)
theorem rU_rt {dy cx cy : Int} (hd : 0 < dy) (hc : 0 < cx) : rk 0 dy cx cy = 3 := rk_3 (by rw [cr_v]; have := Int.mul_pos hd hc; omega)
theorem rU_dn {dy cy : Int} (hd : 0 < dy) (hc : cy < 0) : rk 0 dy 0 cy = 2 := rk_2 (by rw [cr_v, Int.mul_zero]; rfl) (by rw [Int.zero_mul]; have := Int.mul_neg_of_pos_of_neg hd hc; omega)
theorem rU_up {dy cy : Int} (hd : 0 < dy) (hc : 0 < cy) : rk 0 dy 0 cy = 4 := rk_4 (by rw [cr_v, Int.mul_zero]; rfl) (by rw [Int.zero_mul]; have := Int.mul_pos hd hc; omega)
theorem U1_lf {dy bx b2 cx cy : Int} (hd : 0 < dy) (hb : bx < 0) (hc : cx < 0) (h : 0 < cr bx b2 cx cy) : dom 0 dy bx b2 cx cy := Or.inr ⟨by rw [rU_lf hd hb, rU_lf hd hc], h⟩
theorem U1_dn {dy bx b2 cy : Int} (hd : 0 < dy) (hb : bx < 0) (hc : cy < 0) : dom 0 dy bx b2 0 cy := Or.inl (by rw [rU_lf hd hb, rU_dn hd hc]; decide)
theorem U1_rt {dy bx b2 cx cy : Int} (hd : 0 < dy) (hb : bx < 0) (hc : 0 < cx) : dom 0 dy bx b2 cx cy := Or.inl (by rw [rU_lf hd hb, rU_rt hd hc]; decide)
theorem U1_up {dy bx b2 cy : Int} (hd : 0 < dy) (hb : bx < 0) (hc : 0 < cy) : dom 0 dy bx b2 0 cy := Or.inl (by rw [rU_lf hd hb, rU_up hd hc]; decide)
theorem U2_rt {dy b2 cx cy : Int} (hd : 0 < dy) (hb : b2 < 0) (hc : 0 < cx) : dom 0 dy 0 b2 cx cy := Or.inl (by rw [rU_dn hd hb, rU_rt hd hc]; decide)
theorem U2_up {dy b2 cy : Int} (hd : 0 < dy) (hb : b2 < 0) (hc : 0 < cy) : dom 0 dy 0 b2 0 cy := Or.inl (by rw [rU_dn hd hb, rU_up hd hc]; decide)
theorem U3_rt {dy bx b2 cx cy : Int} (hd : 0 < dy) (hb : 0 < bx) (hc : 0 < cx) (h : 0 < cr bx b2 cx cy) : dom 0 dy bx b2 cx cy := Or.inr ⟨by rw [rU_rt hd hb, rU_rt hd hc], h⟩
theorem U3_up {dy bx b2 cy : Int} (hd : 0 < dy) (hb : 0 < bx) (hc : 0 < cy) : dom 0 dy bx b2 0 cy := Or.inl (by rw [rU_rt hd hb, rU_up hd hc]; decide)
theorem dom_asym {dx dy bx b2 cx cy : Int} (h : dom dx dy bx b2 cx cy) : ¬ dom dx dy cx cy bx b2 := by
  have e := cr_flip bx b2 cx cy
  rcases h with h | ⟨h1, h2⟩
  · rintro (q | ⟨q1, q2⟩)
    · omega
    · omega
  · rintro (q | ⟨q1, q2⟩)
    · omega
    · omega
