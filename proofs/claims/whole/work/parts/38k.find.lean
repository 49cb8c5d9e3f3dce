/-! model: findOther -/
def shN (d x : Nat) : Nat := if d = 1 then x else 1000 - x
def owN (s U L : Nat) : Nat := if s = 1 then U else L - U
theorem shN_le {d x : Nat} (hx : x ≤ 1000) : shN d x ≤ 1000 := by unfold shN; split <;> omega
theorem bs_le {b s : Nat} (hb : b < 2) (hs : s ≤ 1000) : b * s < 2 ^ 31 := by
  have : b * s ≤ 1 * s := Nat.mul_le_mul_right _ (by omega)
  omega
theorem shareN {d x : Nat} (hd : d < 2) (hx : x ≤ 1000) : f_X9_shareOf (nI d) (nI x) = nI (shN d x) := shareOf_ok hd hx
theorem if_ow {α : Type} (P : Int64 → α) {s U L : Nat} {fl : Nat → Int64} (hs : s < 2) (f0 : fl 0 = lN U) (f1 : fl 1 = lN L) (hUL : U ≤ L) : (if nI s = 1 then P (fl 0) else P (fl 1 - fl 0)) = P (lN (owN s U L)) := by
  unfold owN
  rcases (show s = 0 ∨ s = 1 by omega) with rfl | rfl
  · rw [if_neg (by decide), if_neg (by decide), f0, f1, lN_sub hUL]
  · rw [if_pos (by decide), if_pos (by decide), f0]
theorem fo_one {br : Nat → Nat → Int32} (K : Int32 → Int32 → Int32 → Int64 → Int64 → Int32 → (Nat → Int64) → Option (Nat → Int64)) {r q x U L : Nat} (hr : r < 4096) (hq : q < 16) (hx : x ≤ 1000) {fl : Nat → Int64} (f0 : fl 0 = lN U) (f1 : fl 1 = lN L) (hUL : U ≤ L) (n A B d s : Nat) (hd : d < 2) (hs : s < 2) :
    f_X9_findOther_162 br K (n + 1) (nI r) (nI q) (nI x) (lN A) (lN B) (nI d) (nI s) fl = f_X9_findOther_162 br K n (nI r) (nI q) (nI x) (lN (A + bN (r % 16) (2 * d + s) * shN d x * owN s U L)) (lN (B + bN q (2 * d + s) * shN s x * owN d U L)) (nI d) (nI (s + 1)) fl := by
  rw [f_X9_findOther_162, if_neg (show ¬ ((2 : Int32) ≤ nI s) from nI_ge (a := s) (b := 2) hs (by decide))]
  rw [if_ow (fun t => f_X9_findOther_190 br (f_X9_findOther_162 br K n) (nI r) (nI q) (nI x) (lN A) (lN B) (nI d) (nI s) t fl) hs f0 f1 hUL]
  unfold f_X9_findOther_190
  simp only [bindv_def]
  rw [mod16_ok hr, means_ok (by omega) hd hs, shareN hd hx, pk_mul, toL (bs_le (bN_lt _ _) (shN_le hx)), lN_mul, lN_add]
  rw [if_ow (fun t => f_X9_findOther_241 br (f_X9_findOther_162 br K n) (nI r) (nI q) (nI x) (lN (A + bN (r % 16) (2 * d + s) * shN d x * owN s U L)) (lN B) (nI d) (nI s) t fl) hd f0 f1 hUL]
  unfold f_X9_findOther_241
  simp only [bindv_def]
  rw [means_ok (by omega) hd hs, shareN hs hx, pk_mul, toL (bs_le (bN_lt _ _) (shN_le hx)), lN_mul, lN_add, nI_1]
theorem fo_two {br : Nat → Nat → Int32} (K : Int32 → Int32 → Int32 → Int64 → Int64 → Int32 → (Nat → Int64) → Option (Nat → Int64)) {r q x U L : Nat} (hr : r < 4096) (hq : q < 16) (hx : x ≤ 1000) {fl : Nat → Int64} (f0 : fl 0 = lN U) (f1 : fl 1 = lN L) (hUL : U ≤ L) {n : Nat} (hn : 2 < n) (A B d : Nat) (hd : d < 2) :
    f_X9_findOther_162 br K n (nI r) (nI q) (nI x) (lN A) (lN B) (nI d) 0 fl = K (nI r) (nI q) (nI x) (lN (A + bN (r % 16) (2 * d) * shN d x * (L - U) + bN (r % 16) (2 * d + 1) * shN d x * U)) (lN (B + bN q (2 * d) * (1000 - x) * owN d U L + bN q (2 * d + 1) * x * owN d U L)) (nI (d + 1)) fl := by
  obtain ⟨n, rfl⟩ : ∃ z, n = z + 1 + 1 + 1 := ⟨n - 3, by omega⟩
  have o0 := fo_one (br := br) K hr hq hx f0 f1 hUL (n + 1 + 1) A B d 0 hd (by decide)
  refine Eq.trans o0 ?_
  rw [fo_one K hr hq hx f0 f1 hUL _ _ _ d 1 hd (by decide), f_X9_findOther_162, if_pos (by decide), bindv_def, nI_1]
  rfl
theorem hU_e {U L x b0 b1 b2 b3 : Nat} (h : U ≤ L) : 0 + b0 * (1000 - x) * (L - U) + b1 * (1000 - x) * U + b2 * x * (L - U) + b3 * x * U = U * (b1 * (1000 - x) + b3 * x) + (L - U) * (b0 * (1000 - x) + b2 * x) := by
  generalize 1000 - x = y
  generalize L - U = M
  grind
theorem hV_e {U L x b0 b1 b2 b3 : Nat} (h : U ≤ L) : 0 + b0 * (1000 - x) * (L - U) + b1 * x * (L - U) + b2 * (1000 - x) * U + b3 * x * U = U * (b2 * (1000 - x) + b3 * x) + (L - U) * (b0 * (1000 - x) + b1 * x) := by
  generalize 1000 - x = y
  generalize L - U = M
  grind
theorem mixE {W C U L g1 g0 v1 v0 : Int} : W * (U * g1 + (L - U) * g0) - C * (U * v1 + (L - U) * v0) = U * (W * g1 - C * v1) + (L - U) * (W * g0 - C * v0) := by grind
def huS (v : Nat → Nat) (r q x U L : Nat) : Int := (U : Int) * wbS v (r % 16) q 1 x + ((L : Int) - (U : Int)) * wbS v (r % 16) q 0 x
def Red (a : Int) (b : Nat) (H : Int) (M : Nat) (G : Nat) : Prop := 0 < G ∧ 0 < b ∧ b < 2 ^ 41 ∧ -(2 : Int) ^ 62 ≤ a ∧ a < 2 ^ 62 ∧ H = a * (G : Int) ∧ M = b * G ∧ Nat.gcd a.natAbs b = 1
theorem abs_le {a : Int} {M : Nat} (h1 : -(M : Int) ≤ a) (h2 : a ≤ (M : Int)) : a.natAbs ≤ M := by
  rcases Int.natAbs_eq a with h | h <;> omega
theorem td_red {H : Int} {M : Nat} (h0 : 0 < M) (h1 : M < 2 ^ 41) (a1 : -(2 : Int) ^ 62 < H) (a2 : H < 2 ^ 62) : Red (H.tdiv (Nat.gcd H.natAbs M : Int)) (M / Nat.gcd H.natAbs M) H M (Nat.gcd H.natAbs M) := by
  have hg : 0 < Nat.gcd H.natAbs M := Nat.gcd_pos_of_pos_right _ h0
  have d1 : Nat.gcd H.natAbs M ∣ H.natAbs := Nat.gcd_dvd_left _ _
  have d2 : Nat.gcd H.natAbs M ∣ M := Nat.gcd_dvd_right _ _
  have d3 : (Nat.gcd H.natAbs M : Int) ∣ H := Int.ofNat_dvd_left.mpr d1
  have hn : (H.tdiv (Nat.gcd H.natAbs M : Int)).natAbs = H.natAbs / Nat.gcd H.natAbs M := by
    rw [Int.natAbs_tdiv]; rfl
  have hle : (H.tdiv (Nat.gcd H.natAbs M : Int)).natAbs < 2 ^ 62 := by
    rw [hn]; exact Nat.lt_of_le_of_lt (Nat.div_le_self _ _) (nab a1 a2)
  refine ⟨hg, Nat.div_pos (Nat.le_of_dvd h0 d2) hg, Nat.lt_of_le_of_lt (Nat.div_le_self _ _) h1, by omega, by omega, (Int.tdiv_mul_cancel d3).symm, (Nat.div_mul_cancel d2).symm, ?_⟩
  rw [hn]
  exact Nat.gcd_div_gcd_div_gcd_of_pos_right h0
theorem fo153 {v : Nat → Nat} (hv : Vok v) {br : Nat → Nat → Int32} (hb : ∀ k, k < 8 → br 1 k = nI (v k)) {r q x U L : Nat} (hr : r < 4096) (hq : q < 16) (hx : x ≤ 1000) {fl : Nat → Int64} (f0 : fl 0 = lN U) (f1 : fl 1 = lN L) (hUL : U ≤ L) (hL0 : 0 < L) (hL : L ≤ 20000000) {N : Nat} (hN : 2 < N) :
    ∃ fl' a b h, f_X9_findOther_153 br N (nI r) (nI q) (nI x) 0 0 0 fl = some fl' ∧ fl' 0 = lN U ∧ fl' 1 = lN L ∧ fl' 2 = lI a ∧ fl' 3 = lN b ∧ Red a b (huS v r q x U L * ((100 - v 2 : Nat) : Int)) (L * 100000) h := by
  obtain ⟨N, rfl⟩ : ∃ z, N = z + 1 + 1 + 1 := ⟨N - 3, by omega⟩
  obtain ⟨F, hF⟩ : ∃ n : Nat, n = 5000 := ⟨_, rfl⟩
  have hF2 : 2 < F := by omega
  obtain ⟨w, hw⟩ : ∃ w, w = r % 16 := ⟨_, rfl⟩
  have hb0 : br 1 (Int32.toNatClampNeg 0) = nI (v 0) := hb 0 (by decide)
  have hb1 : br 1 (Int32.toNatClampNeg 1) = nI (v 1) := hb 1 (by decide)
  have hb2 : br 1 (Int32.toNatClampNeg 2) = nI (v 2) := hb 2 (by decide)
  have v0 := hv.1
  have v1 := hv.2.1
  have v2 := hv.2.2.1
  have s1 : f_X9_findOther_153 br (N + 1 + 1 + 1) (nI r) (nI q) (nI x) 0 0 0 fl = f_X9_findOther_153 br (N + 1) (nI r) (nI q) (nI x) (lN (U * gtN w 1 x + (L - U) * gtN w 0 x)) (lN (U * gvN q 1 x + (L - U) * gvN q 0 x)) (nI 2) fl := by
    rw [f_X9_findOther_153, if_neg (by decide), ← hF]
    refine Eq.trans (fo_two (f_X9_findOther_153 br (N + 1 + 1)) hr hq hx f0 f1 hUL hF2 0 0 0 (by decide)) ?_
    rw [f_X9_findOther_153, if_neg (by decide), ← hF, fo_two (f_X9_findOther_153 br (N + 1)) hr hq hx f0 f1 hUL hF2 _ _ (0 + 1) (by decide)]
    have eA := hU_e (U := U) (L := L) (x := x) (b0 := bN w 0) (b1 := bN w 1) (b2 := bN w 2) (b3 := bN w 3) hUL
    have eB := hV_e (U := U) (L := L) (x := x) (b0 := bN q 0) (b1 := bN q 1) (b2 := bN q 2) (b3 := bN q 3) hUL
    rw [← hw]
    have eA' : 0 + bN w (2 * 0) * shN 0 x * (L - U) + bN w (2 * 0 + 1) * shN 0 x * U + bN w (2 * (0 + 1)) * shN (0 + 1) x * (L - U) + bN w (2 * (0 + 1) + 1) * shN (0 + 1) x * U = U * gtN w 1 x + (L - U) * gtN w 0 x := eA
    have eB' : 0 + bN q (2 * 0) * (1000 - x) * owN 0 U L + bN q (2 * 0 + 1) * x * owN 0 U L + bN q (2 * (0 + 1)) * (1000 - x) * owN (0 + 1) U L + bN q (2 * (0 + 1) + 1) * x * owN (0 + 1) U L = U * gvN q 1 x + (L - U) * gvN q 0 x := eB
    rw [eA', eB']
  obtain ⟨H, hH⟩ : ∃ H, H = huS v r q x U L * ((100 - v 2 : Nat) : Int) := ⟨_, rfl⟩
  have hu : huS v r q x U L = (v 1 : Int) * ((U * gtN w 1 x + (L - U) * gtN w 0 x : Nat) : Int) - (v 0 : Int) * ((U * gvN q 1 x + (L - U) * gvN q 0 x : Nat) : Int) := by
    unfold huS wbS
    rw [← hw]
    simp only [Int.natCast_add, Int.natCast_mul, Int.natCast_sub hUL]
    exact mixE.symm
  have hbd := mix_b hUL (wb_b hv (r % 16) q 1 hx) (wb_b hv (r % 16) q 0 hx)
  have hb' : -1980000000000 ≤ huS v r q x U L ∧ huS v r q x U L ≤ 1980000000000 := by unfold huS; omega
  have hHb : -(2 : Int) ^ 62 < H ∧ H < 2 ^ 62 := by
    have m1 : (huS v r q x U L).natAbs ≤ 1980000000000 := by rcases Int.natAbs_eq (huS v r q x U L) with h | h <;> omega
    have m2 : H.natAbs ≤ 1980000000000 * 100 := by
      rw [hH, Int.natAbs_mul]
      exact Nat.mul_le_mul m1 (by rw [Int.natAbs_natCast]; omega)
    rcases Int.natAbs_eq H with h | h <;> omega
  have hR := td_red (H := H) (M := L * 100000) (by omega) (by omega) hHb.1 hHb.2
  have hg := hR.1
  have hg2 : Nat.gcd H.natAbs (L * 100000) ≤ L * 100000 := Nat.gcd_le_right _ (by omega)
  obtain ⟨h, hh⟩ : ∃ h, h = Nat.gcd H.natAbs (L * 100000) := ⟨_, rfl⟩
  rw [← hh] at hR hg hg2
  have hn0 : ¬ lN h = 0 := fun z => by
    have := (pk_lEQ (a := h) (b := 0) (by omega) (by decide)).mp z
    omega
  obtain ⟨g1, e1⟩ : ∃ z, z = vp_updL fl 2 (lI (H.tdiv (h : Int))) := ⟨_, rfl⟩
  obtain ⟨g2, e2⟩ : ∃ z, z = vp_updL g1 3 (lN (L * 100000 / h)) := ⟨_, rfl⟩
  rw [← hH]
  refine ⟨g2, H.tdiv (h : Int), L * 100000 / h, h, ?_, ?_, ?_, ?_, ?_, hR⟩
  · rw [s1, f_X9_findOther_153, if_pos (by decide), bindv_def, bindv_def, hb0, hb1, hb2, lit_nI 100, pk_sub (a := 100) (b := v 2) (by omega), toL (by omega), toL (by omega), toL (by omega), f1, show (1000 : Int64) = lN 1000 from rfl, show (100 : Int64) = lN 100 from rfl, lN_mul L 1000, lN_mul (L * 1000) 100, show L * 1000 * 100 = L * 100000 by omega]
    have eH : (lN (v 1) * lN (U * gtN w 1 x + (L - U) * gtN w 0 x) - lN (v 0) * lN (U * gvN q 1 x + (L - U) * gvN q 0 x)) * lN (100 - v 2) = lI H := by
      rw [hH, hu]
      simp only [lN_lI, lI_mul, lI_sub]
    rw [eH, gcd9_ok hHb.1 hHb.2 (by omega) (by omega), bind1_some, ← hh, dvL_ok hn0, bindv_def, dvL_ok hn0, bindv_def, pk_lDiv (by omega) (by omega) (by omega), lN_lI h, lI_div (by omega) (by omega) (by omega) (by omega), ← e1, ← e2]
  · rw [e2, pk_uLn (by decide), e1, pk_uLn (by decide), f0]
  · rw [e2, pk_uLn (by decide), e1, pk_uLn (by decide), f1]
  · rw [e2, pk_uLn (by decide), e1, pk_uLs]
  · rw [e2, pk_uLs]
theorem fo9 {v : Nat → Nat} (hv : Vok v) {br : Nat → Nat → Int32} (hb : ∀ k, k < 8 → br 1 k = nI (v k)) {r q x : Nat} (hr : r < 4096) (hq : q < 16) (hx : x ≤ 1000) (n u w s : Nat) (hs : s < 2) (fl : Nat → Int64) :
    f_X9_findOther_9 br (n + 1) (nI r) (nI q) (nI x) (lN u) (lN w) (nI s) fl = f_X9_findOther_9 br n (nI r) (nI q) (nI x) (lN (u + shN s x * odS v (r / 16) (2 * 1 + s) (bN q (2 * 1 + s)))) (lN (w + shN s x * odS v (r / 16) (2 * 0 + s) (bN q (2 * 0 + s)))) (nI (s + 1)) fl := by
  have c1 : f_X9_calledGood br (nI q) (nI (r / 16)) 1 (nI s) = some (nI (odS v (r / 16) (2 * 1 + s) (bN q (2 * 1 + s)))) := calledGood_ok hv hb hq (by omega) (d := 1) (by decide) hs
  have c0 : f_X9_calledGood br (nI q) (nI (r / 16)) 0 (nI s) = some (nI (odS v (r / 16) (2 * 0 + s) (bN q (2 * 0 + s)))) := calledGood_ok hv hb hq (by omega) (d := 0) (by decide) hs
  have o1 := odS_le hv.2.2.1 hv.2.2.2.1 (r / 16) (2 * 1 + s) (bN q (2 * 1 + s))
  have o0 := odS_le hv.2.2.1 hv.2.2.2.1 (r / 16) (2 * 0 + s) (bN q (2 * 0 + s))
  have hsh := shN_le (d := s) hx
  rw [f_X9_findOther_9, if_neg (show ¬ ((2 : Int32) ≤ nI s) from nI_ge (a := s) (b := 2) hs (by decide)), bindv_def, div16_ok hr, c1, bind1_some, bindv_def, bindv_def, c0, bind1_some, bindv_def, bindv_def, shareN hs hx, toL (by omega), toL (by omega), toL (by omega), lN_mul, lN_mul, lN_add, lN_add, nI_1]
def Fo (v : Nat → Nat) (r q x : Nat) (fl' : Nat → Int64) : Prop := fl' 0 = lN (gdS v (r / 16) q x / Nat.gcd (gdS v (r / 16) q x) (tmN v (r / 16) q x)) ∧ fl' 1 = lN (tmN v (r / 16) q x / Nat.gcd (gdS v (r / 16) q x) (tmN v (r / 16) q x)) ∧ ∃ a b G, fl' 2 = lI a ∧ fl' 3 = lN b ∧ Red a b (hasS v r q x * ((100 - v 2 : Nat) : Int)) (tmN v (r / 16) q x * 100000) G
theorem hu_g {v : Nat → Nat} {r q x g U L : Nat} (h1 : gdS v (r / 16) q x = U * g) (h2 : tmN v (r / 16) q x = L * g) : hasS v r q x = huS v r q x U L * (g : Int) := by
  unfold hasS huS
  rw [h1, h2, Int.natCast_mul, Int.natCast_mul]
  generalize wbS v (r % 16) q 1 x = y
  generalize wbS v (r % 16) q 0 x = z
  grind
theorem findOther_ok {v : Nat → Nat} (hv : Vok v) {br : Nat → Nat → Int32} (hb : ∀ k, k < 8 → br 1 k = nI (v k)) {r q x : Nat} (hr : r < 4096) (hq : q < 16) (hx : x ≤ 1000) (fl : Nat → Int64) : ∃ fl', f_X9_findOther fl br (nI r) (nI q) (nI x) = some fl' ∧ Fo v r q x fl' := by
  obtain ⟨F, hF⟩ : ∃ n : Nat, n = 5000 := ⟨_, rfl⟩
  have hF2 : 2 < F := by omega
  obtain ⟨n, hn⟩ : ∃ z, F = z + 1 + 1 + 1 := ⟨F - 3, by omega⟩
  have b1 := cgS_le hv (r / 16) q 1 hx
  have bz := zS_e hv (r / 16) q hx
  obtain ⟨t0, t1, t2⟩ := tm_b hv (r / 16) q hx
  obtain ⟨g, hg⟩ : ∃ g, g = Nat.gcd (gdS v (r / 16) q x) (tmN v (r / 16) q x) := ⟨_, rfl⟩
  have g0 : 0 < g := by rw [hg]; exact Nat.gcd_pos_of_pos_right _ t0
  have gle : g ≤ tmN v (r / 16) q x := by rw [hg]; exact Nat.gcd_le_right _ t0
  have d1 : gdS v (r / 16) q x / g * g = gdS v (r / 16) q x := Nat.div_mul_cancel (by rw [hg]; exact Nat.gcd_dvd_left _ _)
  have d2 : tmN v (r / 16) q x / g * g = tmN v (r / 16) q x := Nat.div_mul_cancel (by rw [hg]; exact Nat.gcd_dvd_right _ _)
  have U1 : gdS v (r / 16) q x / g ≤ tmN v (r / 16) q x / g := Nat.div_le_div_right t2
  have L0 : 0 < tmN v (r / 16) q x / g := Nat.div_pos gle g0
  have L1 : tmN v (r / 16) q x / g ≤ 20000000 := Nat.le_trans (Nat.div_le_self _ _) t1
  have hz : (10000000 : Int64) - lN (cgS v (r / 16) q 1 x) + lN (cgS v (r / 16) q 0 x) = lN (zS v (r / 16) q x) := by
    rw [show (10000000 : Int64) = lN 10000000 from rfl, lN_sub b1, lN_add]; rfl
  have fin : f_X9_findOther fl br (nI r) (nI q) (nI x) = f_X9_findOther_153 br F (nI r) (nI q) (nI x) 0 0 0 (vp_updL (vp_updL fl 0 (lN (gdS v (r / 16) q x / g))) 1 (lN (tmN v (r / 16) q x / g))) := by
    unfold f_X9_findOther
    rw [← hF]
    have s0 : f_X9_findOther_9 br F (nI r) (nI q) (nI x) 0 0 0 fl = f_X9_findOther_9 br (n + 1) (nI r) (nI q) (nI x) (lN (cgS v (r / 16) q 1 x)) (lN (cgS v (r / 16) q 0 x)) (nI 2) fl := by
      rw [hn]
      refine Eq.trans (fo9 hv hb hr hq hx (n + 1 + 1) 0 0 0 (by decide) fl) ?_
      rw [fo9 hv hb hr hq hx (n + 1) _ _ (0 + 1) (by decide) fl]
      have q1 : 0 + shN 0 x * odS v (r / 16) (2 * 1 + 0) (bN q (2 * 1 + 0)) + shN (0 + 1) x * odS v (r / 16) (2 * 1 + (0 + 1)) (bN q (2 * 1 + (0 + 1))) = cgS v (r / 16) q 1 x := by rw [Nat.zero_add]; rfl
      have q0 : 0 + shN 0 x * odS v (r / 16) (2 * 0 + 0) (bN q (2 * 0 + 0)) + shN (0 + 1) x * odS v (r / 16) (2 * 0 + (0 + 1)) (bN q (2 * 0 + (0 + 1))) = cgS v (r / 16) q 0 x := by rw [Nat.zero_add]; rfl
      rw [q1, q0]
    rw [s0, f_X9_findOther_9, if_pos (by decide), bindv_def, hz]
    have ez : (lg_cmp (lN (zS v (r / 16) q x)) 0 = 0) ↔ zS v (r / 16) q x = 0 := ln0 (by omega)
    unfold f_X9_findOther_102 f_X9_findOther_121 f_X9_findOther_141
    simp only [bindv_def]
    rw [← hF]
    by_cases c : zS v (r / 16) q x = 0
    · have eg : gdS v (r / 16) q x = 0 := if_pos c
      have et : tmN v (r / 16) q x = 1 := if_pos c
      rw [if_pos (ez.mpr c), if_pos (ez.mpr c), if_pos (ez.mpr c)]
      rw [eg, et] at hg
      have : g = 1 := hg
      rw [eg, et, this]
      rfl
    · have eg : gdS v (r / 16) q x = cgS v (r / 16) q 0 x := if_neg c
      have et : tmN v (r / 16) q x = zS v (r / 16) q x := if_neg c
      have hn0 : ¬ lN g = 0 := fun z => by
        have := (pk_lEQ (a := g) (b := 0) (by omega) (by decide)).mp z
        omega
      rw [if_neg (fun z => c (ez.mp z)), lN_lI (cgS v (r / 16) q 0 x), gcd9_ok (by omega) (by omega) (by omega) (by omega), bind1_some, Int.natAbs_natCast, ← eg, ← et, ← hg, if_neg (fun z => by have := (ln0 (by omega)).mp z; omega), dvL_ok hn0, if_neg (fun z => by have := (ln0 (by omega)).mp z; omega), dvL_ok hn0, ← lN_lI, pk_lDiv (by omega) (by omega) (by omega), pk_lDiv (by omega) (by omega) (by omega)]
  obtain ⟨fl', a, b, h, r1, r2, r3, r4, r5, r6⟩ := fo153 hv hb hr hq hx (fl := vp_updL (vp_updL fl 0 (lN (gdS v (r / 16) q x / g))) 1 (lN (tmN v (r / 16) q x / g))) (by rw [pk_uLn (by decide), pk_uLs]) pk_uLs U1 L0 L1 hF2
  refine ⟨fl', fin.trans r1, ?_, ?_, a, b, h * g, r4, r5, ?_⟩
  · rw [← hg]; exact r2
  · rw [← hg]; exact r3
  · obtain ⟨k1, k2, k3, k4, k5, k6, k7, k8⟩ := r6
    refine ⟨Nat.mul_pos k1 g0, k2, k3, k4, k5, ?_, ?_, k8⟩
    · rw [hu_g (g := g) d1.symm d2.symm, Int.natCast_mul, ← Int.mul_assoc, ← k6]
      rw [Int.mul_right_comm]
    · rw [← Nat.mul_assoc, ← k7, Nat.mul_right_comm, d2]
