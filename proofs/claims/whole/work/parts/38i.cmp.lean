/-! fractions compared: the model's way and the class's -/
def cs (sg : Int32) (a b : Int) : Int32 := if a < b then 0 - sg else if a = b then 0 else sg
theorem cs_lt {sg : Int32} {a b : Int} (h : a < b) : cs sg a b = 0 - sg := if_pos h
theorem cs_eq {sg : Int32} {a b : Int} (h : a = b) : cs sg a b = 0 := (if_neg (by omega)).trans (if_pos h)
theorem cs_gt {sg : Int32} {a b : Int} (h : b < a) : cs sg a b = sg := (if_neg (by omega)).trans (if_neg (by omega))
theorem cs_sub {sg : Int32} {a b c d : Int} (h : a - b = c - d) : cs sg a b = cs sg c d := by
  rcases Int.lt_trichotomy a b with q | q | q
  · rw [cs_lt q, cs_lt (by omega)]
  · rw [cs_eq q, cs_eq (by omega)]
  · rw [cs_gt q, cs_gt (by omega)]
theorem cs_flip {sg : Int32} (hs : 0 - (0 - sg) = sg) (a b : Int) : cs (0 - sg) b a = cs sg a b := by
  rcases Int.lt_trichotomy a b with q | q | q
  · rw [cs_lt q, cs_gt q]
  · rw [cs_eq q, cs_eq q.symm]
  · rw [cs_gt q, cs_lt q, hs]
theorem cs_scale {sg : Int32} {c a b : Int} (hc : 0 < c) : cs sg (c * a) (c * b) = cs sg a b := by
  rcases Int.lt_trichotomy a b with q | q | q
  · rw [cs_lt q, cs_lt (Int.mul_lt_mul_of_pos_left q hc)]
  · rw [cs_eq q, cs_eq (by rw [q])]
  · rw [cs_gt q, cs_gt (Int.mul_lt_mul_of_pos_left q hc)]
theorem fr_lt {p q r s : Int} (hq : 0 < q) (hs : 0 < s) (h : p / q < r / s) : p * s < r * q := by
  have e1 := Int.mul_ediv_add_emod p q
  have e2 := Int.emod_lt_of_pos p hq
  have e3 := Int.mul_ediv_add_emod r s
  have e4 := Int.emod_nonneg r (show s ≠ 0 by omega)
  have m1 : q * (p / q + 1) ≤ q * (r / s) := Int.mul_le_mul_of_nonneg_left (by omega) (by omega)
  have m2 : p < q * (r / s) := by rw [Int.mul_add] at m1; omega
  have m3 : p * s < q * (r / s) * s := Int.mul_lt_mul_of_pos_right m2 hs
  have m4 : q * (s * (r / s)) ≤ q * r := Int.mul_le_mul_of_nonneg_left (by omega) (by omega)
  have m5 : q * (r / s) * s = q * (s * (r / s)) := by rw [Int.mul_assoc, Int.mul_comm (r / s) s]
  rw [Int.mul_comm r q]
  omega
theorem fr_eq {p q r s : Int} (h : p / q = r / s) : p * s - r * q = (p % q) * s - (r % s) * q := by
  have e1 := Int.mul_ediv_add_emod p q
  have e3 := Int.mul_ediv_add_emod r s
  rw [← h] at e3
  have a1 : p * s = (q * (p / q)) * s + (p % q) * s := by rw [← Int.add_mul, e1]
  have a2 : r * q = (s * (p / q)) * q + (r % s) * q := by rw [← Int.add_mul, e3]
  have a3 : (q * (p / q)) * s = (s * (p / q)) * q := by rw [Int.mul_assoc, Int.mul_comm q, Int.mul_comm (p / q) s]
  omega
theorem cmp_step (N : Nat) {p q r s : Int} (p1 : -(2 : Int) ^ 62 ≤ p) (p2 : p < 2 ^ 62) (r1 : -(2 : Int) ^ 62 ≤ r) (r2 : r < 2 ^ 62) (q1 : 0 < q) (q2 : q < 2 ^ 62) (s1 : 0 < s) (s2 : s < 2 ^ 62) (sg : Int32) :
    f_X9_compare_17 (N + 1) (lI p) (lI q) (lI r) (lI s) sg = if p / q = r / s then f_X9_compare_17 N (lI q) (lI (p % q)) (lI s) (lI (r % s)) (0 - sg) else some (cs sg (p * s) (r * q)) := by
  have b1 := ediv_b q1 p1 p2
  have b2 := ediv_b s1 r1 r2
  have e0 : (lg_cmp (lI (p / q)) (lI (r / s)) = 0) ↔ p / q = r / s := by rw [lg_cmp_eq, lI_eqi (by omega) (by omega) (by omega) (by omega)]
  have e1 : (0 ≤ lg_cmp (lI (p / q)) (lI (r / s))) ↔ r / s ≤ p / q := by rw [lg_cmp_ge, lI_lei (by omega) (by omega) (by omega) (by omega)]
  rw [f_X9_compare_17, if_neg (fun z => lI_ne0 q1 q2 ((lg_cmp_eq _ _).mp z)), if_neg (fun z => lI_ne0 s1 s2 ((lg_cmp_eq _ _).mp z)), floor_ok p1 p2 q1 q2, floor_ok r1 r2 s1 s2, bind1_some, bind1_some]
  by_cases c : p / q = r / s
  · rw [if_pos (e0.mpr c), if_pos c, bindv_def, bindv_def, bindv_def, lI_mul, lI_mul, lI_sub, lI_sub, Int.mul_comm (p / q) q, Int.mul_comm (r / s) s, ← Int.emod_def, ← Int.emod_def]
  · rw [if_neg (fun z => c (e0.mp z)), if_neg c]
    by_cases d : r / s ≤ p / q
    · rw [if_pos (e1.mpr d), cs_gt (fr_lt s1 q1 (by omega))]
    · rw [if_neg (fun z => d (e1.mp z)), cs_lt (fr_lt q1 s1 (by omega))]
theorem cs_next {sg : Int32} (hs : 0 - (0 - sg) = sg) {p q r s : Int} (h : p / q = r / s) : cs (0 - sg) (q * (r % s)) (s * (p % q)) = cs sg (p * s) (r * q) := by
  rw [cs_flip hs]
  exact cs_sub (by rw [fr_eq h, Int.mul_comm s, Int.mul_comm q])
theorem lz0 : lg_cmp (lI ((0 : Nat) : Int)) 0 = 0 := by decide
theorem cmp_loop : ∀ (k N p q r s : Nat) (sg : Int32), 0 - (0 - sg) = sg → q ≤ p → s ≤ r → 0 < p → 0 < r → p < 2 ^ 62 → r < 2 ^ 62 → p * q < 2 ^ k → k < N → f_X9_compare_17 N (lI p) (lI q) (lI r) (lI s) sg = some (cs sg ((p : Int) * s) ((r : Int) * q)) := by
  intro k
  have zq : ∀ (N p r s : Nat) (sg : Int32), 0 < p → p < 2 ^ 62 → s < 2 ^ 62 → f_X9_compare_17 (N + 1) (lI p) (lI (0 : Nat)) (lI r) (lI s) sg = some (cs sg ((p : Int) * s) ((r : Int) * (0 : Nat))) := by
    intro N p r s sg hp hp2 hs2
    rw [f_X9_compare_17, if_pos lz0]
    unfold f_X9_compare_120
    have e : (lg_cmp (lI (0 : Nat)) (lI s) = 0) ↔ s = 0 := by rw [lg_cmp_eq, lI_eqi (by omega) (by omega) (by omega) (by omega)]; omega
    by_cases c : s = 0
    · rw [if_pos (e.mpr c), c, cs_eq (by simp)]
    · rw [if_neg (fun z => c (e.mp z)), if_pos lz0, cs_gt]
      have : 0 < (p : Int) * (s : Int) := Int.mul_pos (by omega) (by omega)
      simpa using this
  have zs : ∀ (N p q r : Nat) (sg : Int32), 0 < q → q < 2 ^ 62 → 0 < r → f_X9_compare_17 (N + 1) (lI p) (lI q) (lI r) (lI (0 : Nat)) sg = some (cs sg ((p : Int) * (0 : Nat)) ((r : Int) * q)) := by
    intro N p q r sg hq hq2 hr
    have hn := lI_ne0 (b := (q : Int)) (by omega) (by omega)
    rw [f_X9_compare_17, if_neg (fun z => hn ((lg_cmp_eq _ _).mp z)), if_pos lz0]
    unfold f_X9_compare_120
    have hn2 : ¬ lg_cmp (lI q) (lI ((0 : Nat) : Int)) = 0 := fun z => hn (((lg_cmp_eq _ _).mp z).trans (by decide))
    rw [if_neg hn2, if_neg (fun z => hn ((lg_cmp_eq _ _).mp z)), cs_lt]
    have : 0 < (r : Int) * (q : Int) := Int.mul_pos (by omega) (by omega)
    simpa using this
  induction k with
  | zero =>
    intro N p q r s sg hsg hqp hsr hp hr hp2 hr2 hm hN
    obtain ⟨N, rfl⟩ : ∃ z, N = z + 1 := ⟨N - 1, by omega⟩
    obtain rfl := z_of_mul hqp (by simpa using hm)
    exact zq N p r s sg hp hp2 (by omega)
  | succ k ih =>
    intro N p q r s sg hsg hqp hsr hp hr hp2 hr2 hm hN
    obtain ⟨N, rfl⟩ : ∃ z, N = z + 1 := ⟨N - 1, by omega⟩
    rcases Nat.eq_zero_or_pos q with c | c
    · rw [c]; exact zq N p r s sg hp hp2 (by omega)
    rcases Nat.eq_zero_or_pos s with d | d
    · rw [d]; exact zs N p q r sg c (by omega) hr
    rw [cmp_step N (by omega) (by omega) (by omega) (by omega) (by omega) (by omega) (by omega) (by omega)]
    by_cases e : (p : Int) / (q : Int) = (r : Int) / (s : Int)
    · have hh := half_ok hqp c
      have hl := Nat.mod_lt p c
      have hl2 := Nat.mod_lt r d
      rw [if_pos e, ← Int.natCast_emod, ← Int.natCast_emod, ih N q (p % q) s (r % s) (0 - sg) (by rw [hsg]) (by omega) (by omega) c d (by omega) (by omega) (by rw [Nat.pow_succ] at hm; omega) (by omega), Int.natCast_emod, Int.natCast_emod, cs_next hsg e]
    · rw [if_neg e]
theorem compare_ok {p r : Int} {q s : Nat} (p1 : -(2 : Int) ^ 62 ≤ p) (p2 : p < 2 ^ 62) (r1 : -(2 : Int) ^ 62 ≤ r) (r2 : r < 2 ^ 62) (q1 : 0 < q) (q2 : q < 2 ^ 41) (s1 : 0 < s) (s2 : s < 2 ^ 41) : f_X9_compare (lI p) (lN q) (lI r) (lN s) = some (cs 1 (p * s) (r * q)) := by
  obtain ⟨F, hF⟩ : ∃ n : Nat, n = 5000 := ⟨_, rfl⟩
  unfold f_X9_compare
  rw [← hF, lN_lI, lN_lI]
  obtain ⟨N, hN⟩ : ∃ z, F = z + 1 := ⟨F - 1, by omega⟩
  rw [hN, cmp_step N p1 p2 r1 r2 (by omega) (by omega) (by omega) (by omega)]
  by_cases e : p / (q : Int) = r / (s : Int)
  · have a1 := Int.emod_nonneg p (show (q : Int) ≠ 0 by omega)
    have a2 := Int.emod_lt_of_pos p (show 0 < (q : Int) by omega)
    have a3 := Int.emod_nonneg r (show (s : Int) ≠ 0 by omega)
    have a4 := Int.emod_lt_of_pos r (show 0 < (s : Int) by omega)
    obtain ⟨y, hy⟩ := Int.eq_ofNat_of_zero_le a1
    obtain ⟨w, hw⟩ := Int.eq_ofNat_of_zero_le a3
    rw [if_pos e, hy, hw, cmp_loop 82 N q y s w (0 - 1) (by decide) (by omega) (by omega) q1 s1 (by omega) (by omega) (sq_lt (k := 41) q2 (by omega)) (by omega), ← hy, ← hw, cs_next (by decide) e]
  · rw [if_neg e]
