/-! longs as whole numbers: division, greatest common part, comparison of fractions -/
def lI (z : Int) : Int64 := Int64.ofInt z
theorem lI_T {z : Int} (h1 : -(2 : Int) ^ 63 ≤ z) (h2 : z < 2 ^ 63) : (lI z).toInt = z := by
  unfold lI
  rw [Int64.toInt_ofInt]
  have e : Int64.size = 18446744073709551616 := rfl
  rw [e]
  exact Int.bmod_eq_of_le (by omega) (by omega)
theorem lI_add (a b : Int) : lI a + lI b = lI (a + b) := (Int64.ofInt_add a b).symm
theorem lI_sub (a b : Int) : lI a - lI b = lI (a - b) := (Int64.ofInt_sub a b).symm
theorem lI_mul (a b : Int) : lI a * lI b = lI (a * b) := (Int64.ofInt_mul a b).symm
theorem lN_lI (n : Nat) : lN n = lI (n : Int) := (Int64.ofInt_eq_ofNat (n := n)).symm
theorem lI_neg (a : Int) : - lI a = lI (- a) := (Int64.ofInt_neg a).symm
theorem lI_eqi {a b : Int} (a1 : -(2 : Int) ^ 63 ≤ a) (a2 : a < 2 ^ 63) (b1 : -(2 : Int) ^ 63 ≤ b) (b2 : b < 2 ^ 63) : lI a = lI b ↔ a = b := by
  constructor
  · intro h
    have := congrArg Int64.toInt h
    rwa [lI_T a1 a2, lI_T b1 b2] at this
  · intro h; rw [h]
theorem lI_lei {a b : Int} (a1 : -(2 : Int) ^ 63 ≤ a) (a2 : a < 2 ^ 63) (b1 : -(2 : Int) ^ 63 ≤ b) (b2 : b < 2 ^ 63) : lI a ≤ lI b ↔ a ≤ b := by
  rw [Int64.le_iff_toInt_le, lI_T a1 a2, lI_T b1 b2]
theorem lI_lti {a b : Int} (a1 : -(2 : Int) ^ 63 ≤ a) (a2 : a < 2 ^ 63) (b1 : -(2 : Int) ^ 63 ≤ b) (b2 : b < 2 ^ 63) : lI a < lI b ↔ a < b := by
  rw [Int64.lt_iff_toInt_lt, lI_T a1 a2, lI_T b1 b2]
theorem lI_div {a b : Int} (a1 : -(2 : Int) ^ 62 ≤ a) (a2 : a < 2 ^ 62) (b1 : 0 < b) (b2 : b < 2 ^ 62) : lI a / lI b = lI (a.tdiv b) := by
  refine (Int64.ofInt_tdiv ?_ ?_ ?_ ?_).symm
  · rw [show Int64.minValue.toInt = -9223372036854775808 by decide]; omega
  · rw [show Int64.maxValue.toInt = 9223372036854775807 by decide]; omega
  · rw [show Int64.minValue.toInt = -9223372036854775808 by decide]; omega
  · rw [show Int64.maxValue.toInt = 9223372036854775807 by decide]; omega
theorem l0 : (0 : Int64) = lI 0 := by decide
theorem l1 : (1 : Int64) = lI 1 := by decide
theorem lI_ne0 {b : Int} (b1 : 0 < b) (b2 : b < 2 ^ 62) : ¬ lI b = 0 := by
  rw [l0, lI_eqi (by omega) (by omega) (by omega) (by omega)]; omega
theorem dvL_ok {α : Type} {y : Int64} (h : ¬ y = 0) (o : Option α) : dvL y o = o := if_neg h
theorem td_dvd {p q : Int} (hq : 0 < q) : p.tdiv q * q = p ↔ q ∣ p := by
  constructor
  · intro h; exact ⟨p.tdiv q, by rw [Int.mul_comm]; exact h.symm⟩
  · intro h; exact Int.tdiv_mul_cancel h
theorem td_pos {p q : Int} (hp : 0 ≤ p) : p.tdiv q = p / q := Int.tdiv_eq_ediv_of_nonneg hp
theorem td_neg {p q : Int} (hp : p < 0) (hq : 0 < q) : p.tdiv q = p / q + if q ∣ p then 0 else 1 := by
  rw [Int.tdiv_eq_ediv, Int.sign_eq_one_of_pos hq]
  by_cases h : q ∣ p
  · rw [if_pos (Or.inr h), if_pos h]
  · rw [if_neg (fun z => z.elim (by omega) h), if_neg h]
theorem ediv_b {p q : Int} (hq : 0 < q) (a1 : -(2 : Int) ^ 62 ≤ p) (a2 : p < 2 ^ 62) : -(2 : Int) ^ 62 ≤ p / q ∧ p / q < 2 ^ 62 := by
  constructor
  · rw [Int.le_ediv_iff_mul_le hq]
    have : -(2 : Int) ^ 62 * q ≤ -(2 : Int) ^ 62 * 1 := Int.mul_le_mul_of_nonpos_left (by decide) (by omega)
    omega
  · rw [Int.ediv_lt_iff_lt_mul hq]
    have : (2 : Int) ^ 62 * 1 ≤ 2 ^ 62 * q := Int.mul_le_mul_of_nonneg_left (by omega) (by decide)
    omega
theorem fl_core {p q : Int} (a1 : -(2 : Int) ^ 62 ≤ p) (a2 : p < 2 ^ 62) (b1 : 0 < q) (b2 : q < 2 ^ 62) (c : Prop) [Decidable c] (hc : c ↔ 0 ≤ p) : (if c then some (lI p / lI q) else if lg_cmp (lI p / lI q * lI q) (lI p) = 0 then some (lI p / lI q) else some (lI p / lI q - 1)) = some (lI (p / q)) := by
  rw [lI_div a1 a2 b1 b2]
  by_cases h : 0 ≤ p
  · rw [if_pos (hc.mpr h), td_pos h]
  · rw [if_neg (fun z => h (hc.mp z)), lI_mul]
    have hb := ediv_b b1 a1 a2
    have hm : (p.tdiv q) * q = p ∨ (p.tdiv q) * q ≠ p := Decidable.em _
    have e := td_neg (p := p) (q := q) (by omega) b1
    by_cases d : q ∣ p
    · rw [if_pos d, Int.add_zero] at e
      rw [if_pos ((lg_cmp_eq _ _).mpr (by rw [(td_dvd b1).mpr d])), e]
    · rw [if_neg d] at e
      have m1 : (p.tdiv q) * q ≠ p := fun z => d ((td_dvd b1).mp z)
      have m2 : -(2 : Int) ^ 63 ≤ (p.tdiv q) * q ∧ (p.tdiv q) * q < 2 ^ 63 := by
        have e1 := Int.mul_ediv_add_emod p q
        have e2 := Int.emod_nonneg p (show q ≠ 0 by omega)
        have e3 := Int.emod_lt_of_pos p b1
        rw [e, Int.add_mul, Int.one_mul, Int.mul_comm]
        omega
      rw [if_neg (fun z => m1 ((lI_eqi m2.1 m2.2 (by omega) (by omega)).mp ((lg_cmp_eq _ _).mp z))), e, l1, lI_sub]
      exact congrArg (fun z => some (lI z)) (by omega)
theorem floor_ok {p q : Int} (a1 : -(2 : Int) ^ 62 ≤ p) (a2 : p < 2 ^ 62) (b1 : 0 < q) (b2 : q < 2 ^ 62) : f_X9_floor (lI p) (lI q) = some (lI (p / q)) := by
  unfold f_X9_floor
  rw [dvL_ok (lI_ne0 b1 b2), bindv_def]
  exact fl_core a1 a2 b1 b2 _ (by rw [lg_cmp_ge, l0, lI_lei (by omega) (by omega) (by omega) (by omega)])
theorem xor_sign {x y : Int64} (hy : 0 ≤ y) : 0 ≤ x ^^^ y ↔ 0 ≤ x := by
  have g : ∀ z : Int64, 0 ≤ z ↔ z.toBitVec.msb = false := by
    intro z
    rw [Int64.le_iff_toInt_le, show (0 : Int64).toInt = 0 by decide, BitVec.msb_eq_toInt]
    show 0 ≤ z.toBitVec.toInt ↔ _
    simp
  rw [g] at hy
  rw [g, g, Int64.toBitVec_xor, BitVec.msb_xor, hy]
  simp
theorem floorDiv_ok {p q : Int} (a1 : -(2 : Int) ^ 62 ≤ p) (a2 : p < 2 ^ 62) (b1 : 0 < q) (b2 : q < 2 ^ 62) : f_J9_floorDiv_f86c9 (lI p) (lI q) = some (lI (p / q)) := by
  unfold f_J9_floorDiv_f86c9
  rw [dvL_ok (lI_ne0 b1 b2), bindv_def]
  exact fl_core a1 a2 b1 b2 _ (by rw [lg_cmp_ge, xor_sign (by rw [l0, lI_lei (by omega) (by omega) (by omega) (by omega)]; omega), l0, lI_lei (by omega) (by omega) (by omega) (by omega)])
theorem abs_ok {p : Int} (a1 : -(2 : Int) ^ 62 < p) (a2 : p < 2 ^ 62) : f_J9_abs_067f4 (lI p) = lN p.natAbs := by
  unfold f_J9_abs_067f4
  rw [lN_lI]
  have e : (0 ≤ lg_cmp (lI p) 0) ↔ 0 ≤ p := by rw [lg_cmp_ge, l0, lI_lei (by omega) (by omega) (by omega) (by omega)]
  by_cases h : 0 ≤ p
  · rw [if_pos (e.mpr h), Int.natAbs_of_nonneg h]
  · rw [if_neg (fun z => h (e.mp z)), lI_neg]; exact congrArg lI (by omega)
theorem cmpL_ok {a b : Int} (a1 : -(2 : Int) ^ 63 ≤ a) (a2 : a < 2 ^ 63) (b1 : -(2 : Int) ^ 63 ≤ b) (b2 : b < 2 ^ 63) : f_J13_compare_74951 (lI a) (lI b) = if a < b then -1 else if a = b then 0 else 1 := by
  unfold f_J13_compare_74951
  have e1 : (0 ≤ lg_cmp (lI a) (lI b)) ↔ b ≤ a := by rw [lg_cmp_ge, lI_lei b1 b2 a1 a2]
  have e2 : (lg_cmp (lI a) (lI b) = 0) ↔ a = b := by rw [lg_cmp_eq, lI_eqi a1 a2 b1 b2]
  by_cases h : a < b
  · rw [if_neg (fun z => by have := e1.mp z; omega), if_pos h]
  · rw [if_pos (e1.mpr (by omega)), if_neg h]
    by_cases h2 : a = b
    · rw [if_pos (e2.mpr h2), if_pos h2]
    · rw [if_neg (fun z => h2 (e2.mp z)), if_neg h2]
theorem ln0 {b : Nat} (hb : b < 2 ^ 62) : (lg_cmp (lN b) 0 = 0) ↔ b = 0 := by
  rw [lg_cmp_eq]
  exact pk_lEQ (b := 0) (by omega) (by decide)
theorem half_ok {a b : Nat} (hab : b ≤ a) (h0 : 0 < b) : 2 * (b * (a % b)) < a * b := by
  have e := Nat.div_add_mod a b
  have d : 1 ≤ a / b := (Nat.one_le_div_iff h0).mpr hab
  have m : b * 1 ≤ b * (a / b) := Nat.mul_le_mul_left _ d
  have l := Nat.mod_lt a h0
  have : 2 * (a % b) < a := by omega
  have := Nat.mul_lt_mul_of_pos_left this h0
  rw [Nat.mul_comm a b]
  have e2 : b * (2 * (a % b)) = 2 * (b * (a % b)) := by rw [Nat.mul_left_comm]
  omega
theorem z_of_mul {a b : Nat} (hab : b ≤ a) (h : a * b < 1) : b = 0 := by
  rcases Nat.eq_zero_or_pos b with q | q
  · exact q
  · have := Nat.mul_le_mul hab q
    have := Nat.mul_le_mul (show 1 ≤ a by omega) q
    omega
theorem gcd9_loop : ∀ (k N a b : Nat), b ≤ a → a * b < 2 ^ k → k < N → a < 2 ^ 62 → f_X9_gcd_18 N (lN a) (lN b) = some (lN (Nat.gcd a b)) := by
  intro k
  induction k with
  | zero =>
    intro N a b hab h hN ha
    obtain ⟨N, rfl⟩ : ∃ z, N = z + 1 := ⟨N - 1, by omega⟩
    obtain rfl := z_of_mul hab (by simpa using h)
    rw [f_X9_gcd_18, if_pos ((ln0 (by decide)).mpr rfl), Nat.gcd_zero_right]
  | succ k ih =>
    intro N a b hab h hN ha
    obtain ⟨N, rfl⟩ : ∃ z, N = z + 1 := ⟨N - 1, by omega⟩
    rw [f_X9_gcd_18]
    by_cases hb : b = 0
    · rw [if_pos ((ln0 (by omega)).mpr hb), hb, Nat.gcd_zero_right]
    · have hh := half_ok hab (by omega)
      have hl := Nat.mod_lt a (show 0 < b by omega)
      rw [if_neg (fun z => hb ((ln0 (by omega)).mp z)), dvL_ok (fun z => hb ((ln0 (by omega)).mp ((lg_cmp_eq _ _).mpr z))), bindv_def, pk_lRem (by omega) (by omega) (by omega), ih N b (a % b) (by omega) (by rw [Nat.pow_succ] at h; omega) (by omega) (by omega), Nat.gcd_comm b, ← Nat.gcd_rec, Nat.gcd_comm]
theorem gcd8_loop (z : Int64) : ∀ (k N a b c : Nat), b ≤ a → a * b < 2 ^ k → k < N → a < 2 ^ 62 → c + k ≤ 100 → f_X8_leastTerm_12 N z (lN a) (lN b) (nI c) = f_X8_leastTerm_47 z (lN (Nat.gcd a b)) := by
  intro k
  induction k with
  | zero =>
    intro N a b c hab h hN ha hc
    obtain ⟨N, rfl⟩ : ∃ z, N = z + 1 := ⟨N - 1, by omega⟩
    obtain rfl := z_of_mul hab (by simpa using h)
    rw [f_X8_leastTerm_12, if_pos ((ln0 (by decide)).mpr rfl), Nat.gcd_zero_right]
    by_cases q : (100 : Int32) ≤ nI c
    · rw [if_pos q]
    · rw [if_neg q]
  | succ k ih =>
    intro N a b c hab h hN ha hc
    obtain ⟨N, rfl⟩ : ∃ z, N = z + 1 := ⟨N - 1, by omega⟩
    rw [f_X8_leastTerm_12, if_neg (show ¬ ((100 : Int32) ≤ nI c) from nI_ge (a := c) (b := 100) (by omega) (by decide))]
    by_cases hb : b = 0
    · rw [if_pos ((ln0 (by omega)).mpr hb), hb, Nat.gcd_zero_right]
    · have hh := half_ok hab (by omega)
      have hl := Nat.mod_lt a (show 0 < b by omega)
      rw [if_neg (fun z => hb ((ln0 (by omega)).mp z)), dvL_ok (fun z => hb ((ln0 (by omega)).mp ((lg_cmp_eq _ _).mpr z))), bindv_def, bindv_def, pk_lRem (by omega) (by omega) (by omega), nI_1, ih N b (a % b) (c + 1) (by omega) (by rw [Nat.pow_succ] at h; omega) (by omega) (by omega) (by omega), Nat.gcd_comm b, ← Nat.gcd_rec, Nat.gcd_comm]
theorem sq_lt {a b k : Nat} (ha : a < 2 ^ k) (hb : b < 2 ^ k) : a * b < 2 ^ (2 * k) := by
  have h := Nat.mul_lt_mul'' ha hb
  rw [← Nat.pow_add] at h
  rwa [show 2 * k = k + k by omega]
theorem nab {p : Int} (a1 : -(2 : Int) ^ 62 < p) (a2 : p < 2 ^ 62) : p.natAbs < 2 ^ 62 := by
  rcases Int.natAbs_eq p with h | h <;> omega
theorem gcd9_ok {p : Int} {b : Nat} (a1 : -(2 : Int) ^ 62 < p) (a2 : p < 2 ^ 62) (hb0 : 0 < b) (hb : b < 2 ^ 41) : f_X9_gcd (lI p) (lN b) = some (lN (Nat.gcd p.natAbs b)) := by
  obtain ⟨F, hF⟩ : ∃ n : Nat, n = 5000 := ⟨_, rfl⟩
  have m : ∀ a : Nat, a < 2 ^ 62 → f_X9_gcd_18 F (lN a) (lN b) = some (lN (Nat.gcd a b)) := by
    intro a ha
    obtain ⟨N, hN⟩ : ∃ z, F = z + 1 := ⟨F - 1, by omega⟩
    have hl := Nat.mod_lt a hb0
    rw [hN, f_X9_gcd_18, if_neg (fun z => by have := (ln0 (b := b) (by omega)).mp z; omega), dvL_ok (fun z => by have := (ln0 (b := b) (by omega)).mp ((lg_cmp_eq _ _).mpr z); omega), bindv_def, pk_lRem (by omega) (by omega) (by omega), gcd9_loop 82 N b (a % b) (by omega) (sq_lt (k := 41) hb (by omega)) (by omega) (by omega), Nat.gcd_comm b, ← Nat.gcd_rec, Nat.gcd_comm]
  unfold f_X9_gcd f_X9_gcd_13
  rw [← hF]
  have e : (0 ≤ lg_cmp (lI p) 0) ↔ 0 ≤ p := by rw [lg_cmp_ge, l0, lI_lei (by omega) (by omega) (by omega) (by omega)]
  by_cases h : 0 ≤ p
  · rw [if_pos (e.mpr h), show lI p = lN p.natAbs by rw [lN_lI, Int.natAbs_of_nonneg h]]
    exact m _ (nab a1 a2)
  · rw [if_neg (fun z => h (e.mp z)), l0, lI_sub, show lI (0 - p) = lN p.natAbs by rw [lN_lI]; exact congrArg lI (by omega)]
    exact m _ (nab a1 a2)
theorem gcd8_ok (z : Int64) {p : Int} {b : Nat} (a1 : -(2 : Int) ^ 62 < p) (a2 : p < 2 ^ 62) (hb0 : 0 < b) (hb : b < 2 ^ 41) : f_X8_leastTerm (lI p) (lN b) z = some (z / lN (Nat.gcd p.natAbs b)) := by
  obtain ⟨F, hF⟩ : ∃ n : Nat, n = 5000 := ⟨_, rfl⟩
  unfold f_X8_leastTerm
  rw [bindv_def, abs_ok a1 a2, ← hF]
  obtain ⟨a, ha⟩ : ∃ a, a = p.natAbs := ⟨_, rfl⟩
  have ha2 : a < 2 ^ 62 := by rw [ha]; exact nab a1 a2
  rw [← ha]
  obtain ⟨N, hN⟩ : ∃ z, F = z + 1 := ⟨F - 1, by omega⟩
  have hl := Nat.mod_lt a hb0
  have hg : 0 < Nat.gcd a b := Nat.gcd_pos_of_pos_right _ hb0
  have hg2 : Nat.gcd a b ≤ b := Nat.gcd_le_right _ hb0
  have e : f_X8_leastTerm_12 F z (lN a) (lN b) 0 = f_X8_leastTerm_47 z (lN (Nat.gcd a b)) := by
    rw [hN, f_X8_leastTerm_12, if_neg (show ¬ ((100 : Int32) ≤ 0) by decide), if_neg (fun z => by have := (ln0 (b := b) (by omega)).mp z; omega), dvL_ok (fun z => by have := (ln0 (b := b) (by omega)).mp ((lg_cmp_eq _ _).mpr z); omega), bindv_def, bindv_def, pk_lRem (by omega) (by omega) (by omega), show (0 + 1 : Int32) = nI 1 from rfl, gcd8_loop z 82 N b (a % b) 1 (by omega) (sq_lt (k := 41) hb (by omega)) (by omega) (by omega) (by decide), Nat.gcd_comm b, ← Nat.gcd_rec, Nat.gcd_comm]
  rw [e]
  unfold f_X8_leastTerm_47
  rw [if_neg (fun z => by have := (ln0 (b := Nat.gcd a b) (by omega)).mp z; omega), dvL_ok (fun z => by have := (ln0 (b := Nat.gcd a b) (by omega)).mp ((lg_cmp_eq _ _).mpr z); omega)]
