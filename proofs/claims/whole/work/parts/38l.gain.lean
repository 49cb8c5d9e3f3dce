/-! other, gain -/
theorem red_gcd {a : Int} {b : Nat} {H : Int} {M G : Nat} (h : Red a b H M G) : Nat.gcd H.natAbs M = G := by
  obtain ⟨k1, k2, k3, k4, k5, k6, k7, k8⟩ := h
  rw [k6, k7, Int.natAbs_mul, Int.natAbs_natCast, Nat.gcd_mul_right, k8, Nat.one_mul]
theorem st_other {fi : Nat → Int32} {fl : Nat → Int64} {ar : Nat → Nat → Int32} {gi : Nat → Int32} {gl : Nat → Int64} {br : Nat → Nat → Int32} (h : Rel fi fl ar gi gl br) (a0 : Int32) (a1 : Int32) (a2 : Int32) (a3 : Int32) : ∃ (r : Int64) (fi' : Nat → Int32) (fl' : Nat → Int64) (ar' : Nat → Nat → Int32) (gl' : Nat → Int64), f_X8_other fi fl ar a0 a1 a2 a3 = some (r, fi', fl', ar') ∧ f_X9_other gl br a0 a1 a2 a3 = some (r, gl') ∧ Rel fi' fl' ar' gi gl' br := by
  have e9 : f_X9_in (Int32.toInt64 a3) 0 3 = f_X8_within a3 0 3 := within_in a3 0 3 0 3 (by decide) (by decide)
  unfold f_X8_other f_X9_other
  simp only [bindv_def]
  rw [rule9, way9, share9, e9]
  rcases rule_c a0 with q | ⟨q, r, hr, rfl⟩
  · rw [q, if_pos rfl, if_pos rfl]; exact ⟨_, _, _, _, _, rfl, rfl, h⟩
  rw [q, if_neg n10, if_neg n10]
  rcases way_c a1 with q1 | ⟨q1, w, hw, rfl⟩
  · rw [q1, if_pos rfl, if_pos rfl]; exact ⟨_, _, _, _, _, rfl, rfl, h⟩
  rw [q1, if_neg n10, if_neg n10]
  rcases share_c a2 with q2 | ⟨q2, x, hx, rfl⟩
  · rw [q2, if_pos rfl, if_pos rfl]; exact ⟨_, _, _, _, _, rfl, rfl, h⟩
  rw [q2, if_neg n10, if_neg n10]
  rcases within_c a3 3 (by decide) with q3 | ⟨q3, t, ht, rfl⟩
  · have q3' : f_X8_within a3 0 3 = 0 := q3
    rw [q3', if_pos rfl, if_pos rfl]; exact ⟨_, _, _, _, _, rfl, rfl, h⟩
  have q3' : f_X8_within (nI t) 0 3 = 1 := q3
  rw [q3', if_neg n10, if_neg n10]
  have h' := h
  obtain ⟨v, ⟨hv, hf, hb⟩, -, -, -, -, hc, -⟩ := h'
  obtain ⟨f1, c1, r1, r2, r3, r4⟩ := live_ok (ar := ar) hv hr hv.2.2.2.1 hf
  rw [eye_self] at r2
  obtain ⟨l1, s1, s2, s3, s4, s5, s6, s7⟩ := live0_ok hv hw hx r2 fl
  obtain ⟨l2, t1, t2, t3, a, b, G, t4, t5, t6⟩ := findOther_ok hv hb hr hw hx gl
  have hrel : Rel f1 l1 c1 gi l2 br := h.keep (fun k hk => r3 k (by omega)) (fun q h6 h7 _ _ => r4 q h6 h7) (fun y hy => by rw [r4 10 (by decide) (by decide)]; exact hc y hy) (fun _ _ => rfl) (fun _ _ => rfl)
  obtain ⟨m0, m1, m2⟩ := tm_b hv (r / 16) w hx
  have g0 : 0 < Nat.gcd (gdS v (r / 16) w x) (tmN v (r / 16) w x) := Nat.gcd_pos_of_pos_right _ m0
  have g1 : Nat.gcd (gdS v (r / 16) w x) (tmN v (r / 16) w x) ≤ tmN v (r / 16) w x := Nat.gcd_le_right _ m0
  have hgc := red_gcd t6
  obtain ⟨k1, k2, k3, k4, k5, k6, k7, k8⟩ := t6
  have hG : G ≤ tmN v (r / 16) w x * 100000 := by rw [← hgc]; exact Nat.gcd_le_right _ (by omega)
  have hh := has_b hv r w hx
  have hup : f_X0_hasUpper f1 l1 = lI (hasS v r w x * ((100 - v 2 : Nat) : Int)) := by
    unfold f_X0_hasUpper
    rw [s6, r2.2.2.2.1, toL (by omega), lN_lI, lI_mul]
  have hlo : f_X0_hasLower l1 = lN (tmN v (r / 16) w x * 100000) := by
    unfold f_X0_hasLower
    rw [s3, show (100000 : Int64) = lN 100000 from rfl, lN_mul]
  obtain ⟨H, hH⟩ : ∃ H, H = hasS v r w x * ((100 - v 2 : Nat) : Int) := ⟨_, rfl⟩
  have hHb : -(2 : Int) ^ 62 < H ∧ H < 2 ^ 62 := by
    have m1 : (hasS v r w x).natAbs ≤ 1980000000000 := by rcases Int.natAbs_eq (hasS v r w x) with h | h <;> omega
    have m2 : H.natAbs ≤ 1980000000000 * 100 := by
      rw [hH, Int.natAbs_mul]
      exact Nat.mul_le_mul m1 (by rw [Int.natAbs_natCast]; omega)
    rcases Int.natAbs_eq H with h | h <;> omega
  rw [← hH] at hgc hup k6
  rw [vil_e hf, r1, bind2_some, s1, bind1_some, t1, bind1_some, hup, hlo, s2, s3]
  rw [gcd8_ok _ hHb.1 hHb.2 (by omega) (by omega), gcd8_ok _ hHb.1 hHb.2 (by omega) (by omega), lN_lI (gdS v (r / 16) w x), gcd8_ok _ (by omega) (by omega) (by omega) (by omega), gcd8_ok _ (by omega) (by omega) (by omega) (by omega), Int.natAbs_natCast, hgc, ← lN_lI]
  rw [bind1_some, bind1_some, bind1_some, bind1_some, pk_lDiv (by omega) (by omega) (by omega), pk_lDiv (by omega) (by omega) (by omega), pk_lDiv (by omega) (by omega) (by omega), lN_lI G, lI_div (by omega) (by omega) (by omega) (by omega)]
  have ea : H.tdiv (G : Int) = a := by rw [k6]; exact Int.mul_tdiv_cancel a (by omega)
  have eb : tmN v (r / 16) w x * 100000 / G = b := by rw [k7]; exact Nat.mul_div_cancel b k1
  rw [ea, eb, t2, t3, t4, t5]
  rcases (show t = 0 ∨ t = 1 ∨ t = 2 ∨ t = 3 by omega) with rfl | rfl | rfl | rfl
  · rw [if_pos (by decide), if_pos (by decide)]; exact ⟨_, _, _, _, _, rfl, rfl, hrel⟩
  · rw [if_neg (by decide), if_pos (by decide), if_neg (by decide), if_pos (by decide)]; exact ⟨_, _, _, _, _, rfl, rfl, hrel⟩
  · rw [if_neg (by decide), if_neg (by decide), if_pos (by decide), if_neg (by decide), if_neg (by decide), if_pos (by decide)]; exact ⟨_, _, _, _, _, rfl, rfl, hrel⟩
  · rw [if_neg (by decide), if_neg (by decide), if_neg (by decide), if_neg (by decide), if_neg (by decide), if_neg (by decide)]; exact ⟨_, _, _, _, _, rfl, rfl, hrel⟩
def Ms (v : Nat → Nat) (r x : Nat) (fl : Nat → Int64) : Prop := fl 5 = lI (hasS v r (r % 16) x / (tmN v (r / 16) (r % 16) x : Int)) ∧ fl 6 = lI (hasS v r (r % 16) x % (tmN v (r / 16) (r % 16) x : Int)) ∧ fl 7 = lN (tmN v (r / 16) (r % 16) x)
theorem measure_ok {v : Nat → Nat} (hv : Vok v) {r x : Nat} (hx : x ≤ 1000) {fi : Nat → Int32} {ar : Nat → Nat → Int32} (h : Lived v r fi ar) (fl : Nat → Int64) : ∃ fl', f_X2_measure fi fl ar (nI x) = some fl' ∧ Ms v r x fl' := by
  obtain ⟨l1, s1, s2, s3, s4, s5, s6, s7⟩ := live0_ok hv (q := r % 16) (by omega) hx h fl
  unfold f_X2_measure
  rw [h.1, s1, bind1_some]
  simp only [bindv_def]
  refine ⟨_, rfl, ?_, ?_, ?_⟩
  · rw [pk_uLn (by decide), pk_uLn (by decide), pk_uLs, s4]
  · rw [pk_uLn (by decide), pk_uLs, pk_uLn (by decide), s5]
  · rw [pk_uLs, pk_uLn (by decide), pk_uLn (by decide), s3]
theorem gn_cs (v : Nat → Nat) (r q x : Nat) : gnS v r q x = cs 1 (hasS v r q x * (tmN v (r / 16) (r % 16) x : Int)) (hasS v r (r % 16) x * (tmN v (r / 16) q x : Int)) := rfl
theorem compare8_ok {v : Nat → Nat} (hv : Vok v) {r q x : Nat} (hq : q < 16) (hx : x ≤ 1000) {fi : Nat → Int32} {ar : Nat → Nat → Int32} (h : Lived v r fi ar) {fl : Nat → Int64} (hm : Ms v r x fl) : ∃ fl', f_X2_compare fi fl ar (nI q) (nI x) = some (gnS v r q x, fl') ∧ Ms v r x fl' := by
  obtain ⟨l1, s1, s2, s3, s4, s5, s6, s7⟩ := live0_ok hv hq hx h fl
  obtain ⟨m5, m6, m7⟩ := hm
  have hm' : Ms v r x l1 := ⟨by rw [s7 5 (by decide), m5], by rw [s7 6 (by decide), m6], by rw [s7 7 (by decide), m7]⟩
  obtain ⟨a0, a1, a2⟩ := tm_b hv (r / 16) q hx
  obtain ⟨b0, b1, b2⟩ := tm_b hv (r / 16) (r % 16) hx
  have hp := has_b hv r q hx
  have hw := has_b hv r (r % 16) hx
  unfold f_X2_compare
  rw [s1, bind1_some, s4, s5, s3, hm'.1, hm'.2.1, hm'.2.2, bindv_def, gn_cs]
  obtain ⟨P, hP⟩ : ∃ z, z = hasS v r q x := ⟨_, rfl⟩
  obtain ⟨W, hW⟩ : ∃ z, z = hasS v r (r % 16) x := ⟨_, rfl⟩
  obtain ⟨t, ht⟩ : ∃ z, z = tmN v (r / 16) q x := ⟨_, rfl⟩
  obtain ⟨u, hu⟩ : ∃ z, z = tmN v (r / 16) (r % 16) x := ⟨_, rfl⟩
  rw [← hP] at hp ⊢
  rw [← hW] at hw ⊢
  rw [← ht] at a0 a1 ⊢
  rw [← hu] at b0 b1 ⊢
  have d1 := ediv_b (p := P) (q := (t : Int)) (by omega) (by omega) (by omega)
  have d2 := ediv_b (p := W) (q := (u : Int)) (by omega) (by omega) (by omega)
  have e0 : (lg_cmp (lI (P / (t : Int))) (lI (W / (u : Int))) = 0) ↔ P / (t : Int) = W / (u : Int) := by rw [lg_cmp_eq, lI_eqi (by omega) (by omega) (by omega) (by omega)]
  have e1 : (0 ≤ lg_cmp (lI (P / (t : Int))) (lI (W / (u : Int)))) ↔ W / (u : Int) ≤ P / (t : Int) := by rw [lg_cmp_ge, lI_lei (by omega) (by omega) (by omega) (by omega)]
  by_cases c : P / (t : Int) = W / (u : Int)
  · have x1 := Int.emod_nonneg P (show (t : Int) ≠ 0 by omega)
    have x2 := Int.emod_lt_of_pos P (show 0 < (t : Int) by omega)
    have x3 := Int.emod_nonneg W (show (u : Int) ≠ 0 by omega)
    have x4 := Int.emod_lt_of_pos W (show 0 < (u : Int) by omega)
    have y1 : 0 ≤ P % (t : Int) * (u : Int) ∧ P % (t : Int) * (u : Int) ≤ 20000000 * 20000000 := ⟨Int.mul_nonneg x1 (by omega), Int.mul_le_mul (by omega) (by omega) (by omega) (by omega)⟩
    have y2 : 0 ≤ W % (u : Int) * (t : Int) ∧ W % (u : Int) * (t : Int) ≤ 20000000 * 20000000 := ⟨Int.mul_nonneg x3 (by omega), Int.mul_le_mul (by omega) (by omega) (by omega) (by omega)⟩
    rw [if_pos (e0.mpr c), lN_lI, lN_lI, lI_mul, lI_mul, cmpL_ok (by omega) (by omega) (by omega) (by omega)]
    refine ⟨l1, congrArg (fun z => some (z, l1)) ?_, hm'⟩
    exact Eq.trans rfl (cs_sub (sg := 1) (fr_eq c)).symm
  · rw [if_neg (fun z => c (e0.mp z))]
    by_cases d : W / (u : Int) ≤ P / (t : Int)
    · rw [if_pos (e1.mpr d), cs_gt (fr_lt (by omega) (by omega) (by omega))]
      exact ⟨l1, rfl, hm'⟩
    · rw [if_neg (fun z => d (e1.mp z)), cs_lt (fr_lt (by omega) (by omega) (by omega))]
      exact ⟨l1, rfl, hm'⟩
theorem fr_scale {a b c d H J k : Int} {M N G E : Nat} (hG : 0 < G) (hE : 0 < E) (hk : 0 < k) (h1 : H * k = a * (G : Int)) (h2 : (M : Int) * 100000 = b * (G : Int)) (h3 : J * k = c * (E : Int)) (h4 : (N : Int) * 100000 = d * (E : Int)) : cs 1 (a * d) (c * b) = cs 1 (H * (N : Int)) (J * (M : Int)) := by
  have p1 : 0 < (G : Int) * (E : Int) := Int.mul_pos (by omega) (by omega)
  have p2 : 0 < k * 100000 := Int.mul_pos hk (by decide)
  rw [← cs_scale (c := (G : Int) * (E : Int)) p1, ← cs_scale (a := H * (N : Int)) (c := k * 100000) p2]
  have q1 : (G : Int) * (E : Int) * (a * d) = k * 100000 * (H * (N : Int)) := by
    have : (G : Int) * (E : Int) * (a * d) = (a * (G : Int)) * (d * (E : Int)) := by grind
    rw [this, ← h1, ← h4]; grind
  have q2 : (G : Int) * (E : Int) * (c * b) = k * 100000 * (J * (M : Int)) := by
    have : (G : Int) * (E : Int) * (c * b) = (c * (E : Int)) * (b * (G : Int)) := by grind
    rw [this, ← h3, ← h2]; grind
  rw [q1, q2]
theorem gainOf_ok {v : Nat → Nat} (hv : Vok v) {br : Nat → Nat → Int32} (hb : ∀ k, k < 8 → br 1 k = nI (v k)) {r q x : Nat} (hr : r < 4096) (hq : q < 16) (hx : x ≤ 1000) (gl : Nat → Int64) : ∃ gl', f_X9_gainOf gl br (nI r) (nI q) (nI x) = some (gnS v r q x, gl') := by
  obtain ⟨l1, s1, s2, s3, a, b, G, s4, s5, s6⟩ := findOther_ok hv hb hr (q := r % 16) (by omega) hx gl
  obtain ⟨l2, t1, t2, t3, c, d, E, t4, t5, t6⟩ := findOther_ok hv hb hr hq hx l1
  obtain ⟨k1, k2, k3, k4, k5, k6, k7, k8⟩ := s6
  obtain ⟨j1, j2, j3, j4, j5, j6, j7, j8⟩ := t6
  unfold f_X9_gainOf
  rw [mod16_ok hr, s1, bind1_some, bindv_def, bindv_def, t1, bind1_some, t4, t5, s4, s5, compare_ok j4 j5 k4 k5 j2 j3 k2 k3, bind1_some, gn_cs]
  have hk : (0 : Int) < ((100 - v 2 : Nat) : Int) := by have := hv.2.2.1; omega
  have e1 : (tmN v (r / 16) (r % 16) x : Int) * 100000 = (b : Int) * (G : Int) := by rw [← Int.natCast_mul, ← k7, Int.natCast_mul]; rfl
  have e2 : (tmN v (r / 16) q x : Int) * 100000 = (d : Int) * (E : Int) := by rw [← Int.natCast_mul, ← j7, Int.natCast_mul]; rfl
  rw [fr_scale j1 k1 hk j6 e2 k6 e1]
  exact ⟨_, rfl⟩
theorem st_gain {fi : Nat → Int32} {fl : Nat → Int64} {ar : Nat → Nat → Int32} {gi : Nat → Int32} {gl : Nat → Int64} {br : Nat → Nat → Int32} (h : Rel fi fl ar gi gl br) (a0 : Int32) (a1 : Int32) (a2 : Int32) : ∃ (r : Int32) (fi' : Nat → Int32) (fl' : Nat → Int64) (ar' : Nat → Nat → Int32) (gl' : Nat → Int64), f_X8_gain fi fl ar a0 a1 a2 = some (r, fi', fl', ar') ∧ f_X9_gain gl br a0 a1 a2 = some (r, gl') ∧ Rel fi' fl' ar' gi gl' br := by
  unfold f_X8_gain f_X9_gain
  simp only [bindv_def]
  rw [rule9, way9, share9]
  rcases rule_c a0 with q | ⟨q, r, hr, rfl⟩
  · rw [q, if_pos rfl, if_pos rfl]; exact ⟨_, _, _, _, _, rfl, rfl, h⟩
  rw [q, if_neg n10, if_neg n10]
  rcases way_c a1 with q1 | ⟨q1, w, hw, rfl⟩
  · rw [q1, if_pos rfl, if_pos rfl]; exact ⟨_, _, _, _, _, rfl, rfl, h⟩
  rw [q1, if_neg n10, if_neg n10]
  rcases share_c a2 with q2 | ⟨q2, x, hx, rfl⟩
  · rw [q2, if_pos rfl, if_pos rfl]; exact ⟨_, _, _, _, _, rfl, rfl, h⟩
  rw [q2, if_neg n10, if_neg n10]
  have h' := h
  obtain ⟨v, ⟨hv, hf, hb⟩, -, -, -, -, hc, -⟩ := h'
  obtain ⟨f1, c1, r1, r2, r3, r4⟩ := live_ok (ar := ar) hv hr hv.2.2.2.1 hf
  rw [eye_self] at r2
  obtain ⟨l1, s1, s2⟩ := measure_ok hv hx r2 fl
  obtain ⟨l2, t1, t2⟩ := compare8_ok hv hw hx r2 s2
  obtain ⟨g1, u1⟩ := gainOf_ok hv hb hr hw hx gl
  rw [vil_e hf, r1, bind2_some, s1, bind1_some, t1, bind2_some, u1, bind2_some]
  exact ⟨_, f1, l2, c1, g1, rfl, rfl, h.keep (fun k hk => r3 k (by omega)) (fun q h6 h7 _ _ => r4 q h6 h7) (fun y hy => by rw [r4 10 (by decide) (by decide)]; exact hc y hy) (fun _ _ => rfl) (fun _ _ => rfl)⟩
