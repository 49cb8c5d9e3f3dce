/-! a step: class (live, next) and model (calledGood, stepOf) -/
theorem lit_nI (n : Nat) : (OfNat.ofNat n : Int32) = nI n := rfl
theorem one_iff {b : Nat} (h : b < 2 ^ 31) : (nI b = 1) ↔ b = 1 := nI_eq (b := 1) h (by decide)
theorem if_ref {α : Type} (F : Int32 → α) {v : Nat → Nat} (hv : v 3 ≤ 50) (nm j : Nat) : (if nI (bN nm j) = 1 then F (100 - nI (v 3)) else F (nI (v 3))) = F (nI (refS v nm j)) := by
  unfold refS
  rcases bN_or nm j with h | h
  · rw [h, if_neg (by decide), if_neg (by decide)]
  · rw [h, if_pos (by decide), if_pos (by decide)]
    exact congrArg F (pk_sub (a := 100) (b := v 3) (by omega))
theorem refS_le {v : Nat → Nat} (hv : v 3 ≤ 50) (nm j : Nat) : refS v nm j ≤ 100 := by
  unfold refS
  split <;> omega
theorem odS_le {v : Nat → Nat} (h2 : v 2 ≤ 50) (h3 : v 3 ≤ 50) (nm j w : Nat) : odS v nm j w ≤ 10000 := by
  unfold odS
  have a := refS_le h3 nm (2 * j + 1)
  have b := refS_le h3 nm (2 * j)
  split
  · have c1 : (100 - v 2) * refS v nm (2 * j + 1) ≤ (100 - v 2) * 100 := Nat.mul_le_mul_left _ a
    have c2 : v 2 * refS v nm (2 * j) ≤ v 2 * 100 := Nat.mul_le_mul_left _ b
    omega
  · omega
theorem means_ok {q d r : Nat} (hq : q < 2 ^ 31) (hd : d < 2) (hr : r < 2) : f_X9_means (nI q) (nI d) (nI r) = nI (bN q (2 * d + r)) := by
  unfold f_X9_means
  have e : (2 * nI d + nI r : Int32) = nI (2 * d + r) := by rw [lit_nI 2, pk_mul, nI_add]
  rw [e]
  exact bit_ok hq (by omega)
theorem calls_ok {q d r t : Nat} (hq : q < 2 ^ 31) (hd : d < 2) (hr : r < 2) (ht : t < 2) : f_X9_calls (nI q) (nI d) (nI r) (nI t) = nI (bN q (4 * d + 2 * r + t)) := by
  unfold f_X9_calls
  have e : (4 * nI d + 2 * nI r + nI t : Int32) = nI (4 * d + 2 * r + t) := by rw [lit_nI 2, lit_nI 4, pk_mul, pk_mul, nI_add, nI_add]
  rw [e]
  exact bit_ok hq (by omega)
theorem shareOf_ok {d x : Nat} (hd : d < 2) (hx : x ≤ 1000) : f_X9_shareOf (nI d) (nI x) = nI (if d = 1 then x else 1000 - x) := by
  unfold f_X9_shareOf
  rcases (show d = 0 ∨ d = 1 by omega) with rfl | rfl
  · rw [if_neg (by decide), if_neg (by decide)]
    exact pk_sub (a := 1000) (b := x) hx
  · rw [if_pos (by decide), if_pos (by decide)]
theorem cg_loop {v : Nat → Nat} {br : Nat → Nat → Int32} (h3 : v 3 ≤ 50) (hb3 : br 1 (Int32.toNatClampNeg 3) = nI (v 3)) {nm d r H : Nat} (hnm : nm < 256) (hd : d < 2) (hr : r < 2) (hH : H ≤ 100) (n : Nat) : f_X9_calledGood_32 br (n + 1 + 1 + 1) (nI nm) (nI d) (nI r) (nI H) 0 0 = some (nI ((100 - H) * refS v nm (4 * d + 2 * r) + H * refS v nm (4 * d + 2 * r + 1))) := by
  rw [f_X9_calledGood_32, if_neg (by decide), if_neg (by decide)]
  unfold f_X9_calledGood_54
  dsimp only [bindv]
  rw [show (0 : Int32) = nI 0 from rfl, calls_ok (by omega) hd hr (by decide : 0 < 2), hb3]
  rw [if_ref (fun t => f_X9_calledGood_91 br (f_X9_calledGood_32 br _) (nI nm) (nI d) (nI r) (nI H) (nI 0) (nI 0) (100 - nI H) t) h3]
  unfold f_X9_calledGood_91
  dsimp only [bindv]
  rw [f_X9_calledGood_32, if_neg (by decide), if_pos (by decide)]
  unfold f_X9_calledGood_54
  dsimp only [bindv]
  rw [show (nI 0 + 1 : Int32) = nI 1 from rfl, calls_ok (by omega) hd hr (by decide : 1 < 2), hb3]
  rw [if_ref (fun t => f_X9_calledGood_91 br (f_X9_calledGood_32 br _) (nI nm) (nI d) (nI r) (nI H) (nI 1) (nI 0 + (100 - nI H) * nI (refS v nm (4 * d + 2 * r + 0))) (nI H) t) h3]
  unfold f_X9_calledGood_91
  dsimp only [bindv]
  rw [f_X9_calledGood_32, if_pos (by decide)]
  rw [lit_nI 100, pk_sub (a := 100) (b := H) (by omega), pk_mul, pk_mul, nI_add, nI_add]
  simp
theorem calledGood_ok {v : Nat → Nat} {br : Nat → Nat → Int32} (hv : Vok v) (hb : ∀ k, k < 8 → br 1 k = nI (v k)) {q nm d r : Nat} (hq : q < 16) (hnm : nm < 256) (hd : d < 2) (hr : r < 2) : f_X9_calledGood br (nI q) (nI nm) (nI d) (nI r) = some (nI (odS v nm (2 * d + r) (bN q (2 * d + r)))) := by
  obtain ⟨h0, h1, h2, h3, h4, h5, h6, h7⟩ := hv
  have hb3 : br 1 (Int32.toNatClampNeg 3) = nI (v 3) := hb 3 (by decide)
  have hb2 : br 1 (Int32.toNatClampNeg 2) = nI (v 2) := hb 2 (by decide)
  unfold f_X9_calledGood f_X9_calledGood_24
  dsimp only [bindv]
  rw [means_ok (by omega) hd hr, hb2]
  have e1 : 2 * (2 * d + r) = 4 * d + 2 * r := by omega
  unfold odS
  rw [e1]
  rcases bN_or q (2 * d + r) with h | h
  · rw [h, if_neg (by decide), if_neg (by decide), show (0 : Int32) = nI 0 from rfl]
    refine (cg_loop h3 hb3 hnm hd hr (by decide : 0 ≤ 100) 4997).trans ?_
    simp
  · rw [h, if_pos (by decide), if_pos (by decide), lit_nI 100, pk_sub (a := 100) (b := v 2) (by omega)]
    refine (cg_loop h3 hb3 hnm hd hr (by omega : 100 - v 2 ≤ 100) 4997).trans ?_
    rw [show 100 - (100 - v 2) = v 2 by omega, Nat.add_comm]
theorem sum_le {a x o0 o1 o2 o3 : Nat} (h : a + x = 1000) (h0 : o0 ≤ 10000) (h1 : o1 ≤ 10000) (h2 : o2 ≤ 10000) (h3 : o3 ≤ 10000) : a * a * o0 + a * x * (o1 + o2) + x * x * o3 ≤ 10000000000 := by
  have c0 : a * a * o0 ≤ a * a * 10000 := Nat.mul_le_mul_left _ h0
  have c1 : a * x * (o1 + o2) ≤ a * x * 20000 := Nat.mul_le_mul_left _ (by omega)
  have c3 : x * x * o3 ≤ x * x * 10000 := Nat.mul_le_mul_left _ h3
  have e : (a + x) * (a + x) = a * a + 2 * (a * x) + x * x := by
    rw [Nat.add_mul, Nat.mul_add, Nat.mul_add, Nat.mul_comm x a]; omega
  rw [h] at e
  omega
theorem ownS_le {v : Nat → Nat} (hv : Vok v) (r j : Nat) : ownS v r j ≤ 10000 := odS_le hv.2.2.1 hv.2.2.2.1 _ _ _
theorem sumS_le {v : Nat → Nat} (hv : Vok v) (r : Nat) {x : Nat} (hx : x ≤ 1000) : (1000 - x) * (1000 - x) * ownS v r 0 + (1000 - x) * x * (ownS v r 1 + ownS v r 2) + x * x * ownS v r 3 ≤ 10000000000 := sum_le (by omega) (ownS_le hv r 0) (ownS_le hv r 1) (ownS_le hv r 2) (ownS_le hv r 3)
theorem shS_le {v : Nat → Nat} (hv : Vok v) (r : Nat) {x : Nat} (hx : x ≤ 1000) : shS v r x ≤ 1000 := by
  have := sumS_le hv r hx
  unfold shS
  omega
theorem fade_le {a b c : Nat} (ha : a ≤ 99) (hb : b ≤ 1000) (hc : c ≤ 1) : (100 - a) * b + a * 1000 * c ≤ 100000 := by
  have h1 : (100 - a) * b ≤ (100 - a) * 1000 := Nat.mul_le_mul_left _ hb
  have h2 : a * 1000 * c ≤ a * 1000 * 1 := Nat.mul_le_mul_left _ hc
  omega
theorem stS_le {v : Nat → Nat} (hv : Vok v) (r : Nat) {x : Nat} (hx : x ≤ 1000) : stS v r x ≤ 1000 := by
  have h := shS_le hv r hx
  have := fade_le hv.2.2.2.2.1 h hv.2.2.2.2.2.1
  unfold stS
  omega
/-- the end of a step, behind its sum -/
theorem end_ok {v : Nat → Nat} (hv : Vok v) (r : Nat) {x : Nat} (hx : x ≤ 1000) : ((100 - nI (v 4)) * (Int64.toInt32 (lN ((1000 - x) * (1000 - x) * ownS v r 0 + (1000 - x) * x * (ownS v r 1 + ownS v r 2) + x * x * ownS v r 3) / 10000000)) + nI (v 4) * 1000 * nI (v 5)) / 100 = nI (stS v r x) := by
  have h := sumS_le hv r hx
  have h4 := hv.2.2.2.2.1
  have h5 := hv.2.2.2.2.2.1
  have hs := shS_le hv r hx
  have hf := fade_le h4 hs h5
  rw [show (10000000 : Int64) = lN 10000000 from rfl, pk_lDiv (by omega) (by decide) (by decide), lN_i]
  rw [lit_nI 100, lit_nI 1000, pk_sub (a := 100) (b := v 4) (by omega), pk_mul, pk_mul, pk_mul, nI_add]
  exact pk_div (a := (100 - v 4) * shS v r x + v 4 * 1000 * v 5) (d := 100) (by omega) (by decide) (by decide)
theorem toL {n : Nat} (h : n < 2 ^ 31) : Int32.toInt64 (nI n) = lN n := nI_l h
theorem stepOf_ok {v : Nat → Nat} {br : Nat → Nat → Int32} (hv : Vok v) (hb : ∀ k, k < 8 → br 1 k = nI (v k)) {r x : Nat} (hr : r < 4096) (hx : x ≤ 1000) : f_X9_stepOf br (nI r) (nI x) = some (nI (stS v r x)) := by
  have o := ownS_le hv r
  have hcg : ∀ d s, d < 2 → s < 2 → f_X9_calledGood br (nI (r % 16)) (nI (r / 16)) (nI d) (nI s) = some (nI (ownS v r (2 * d + s))) := fun d s hd hs => calledGood_ok hv hb (by omega) (by omega) hd hs
  have one : ∀ (k : Int32 → Int32 → Int64 → Int32 → Option Int32) (n S d s : Nat), d < 2 → s < 2 → f_X9_stepOf_14 br k (n + 1) (nI r) (nI x) (lN S) (nI d) (nI s) = f_X9_stepOf_14 br k n (nI r) (nI x) (lN (S + (if d = 1 then x else 1000 - x) * (if s = 1 then x else 1000 - x) * ownS v r (2 * d + s))) (nI d) (nI (s + 1)) := by
    intro k n S d s hd hs
    have ho := o (2 * d + s)
    rw [f_X9_stepOf_14, if_neg (show ¬ ((2 : Int32) ≤ nI (s)) from nI_ge (a := s) (b := 2) hs (by decide))]
    dsimp only [bindv]
    rw [shareOf_ok hd hx, shareOf_ok hs hx, mod16_ok hr, div16_ok hr, hcg d s hd hs]
    show f_X9_stepOf_14 br k n (nI r) (nI x) _ (nI d) (nI s + 1) = _
    have hd' : (if d = 1 then x else 1000 - x) < 2 ^ 31 := by split <;> omega
    have hs' : (if s = 1 then x else 1000 - x) < 2 ^ 31 := by split <;> omega
    rw [toL hd', toL hs', toL (by omega), lN_mul, lN_mul, lN_add, nI_1]
  have two : ∀ (k : Int32 → Int32 → Int64 → Int32 → Option Int32) (n S d : Nat), d < 2 → f_X9_stepOf_14 br k (n + 1 + 1 + 1) (nI r) (nI x) (lN S) (nI d) (nI 0) = k (nI r) (nI x) (lN (S + (if d = 1 then x else 1000 - x) * (1000 - x) * ownS v r (2 * d) + (if d = 1 then x else 1000 - x) * x * ownS v r (2 * d + 1))) (nI (d + 1)) := by
    intro k n S d hd
    rw [one k _ S d 0 hd (by decide), one k _ _ d 1 hd (by decide), f_X9_stepOf_14, if_pos (by decide)]
    dsimp only [bindv]
    rw [nI_1]
    rfl
  unfold f_X9_stepOf
  rw [show (5000 : Nat) = 4997 + 1 + 1 + 1 from rfl, show (0 : Int64) = lN 0 from rfl, show (0 : Int32) = nI 0 from rfl]
  rw [f_X9_stepOf_5, if_neg (by decide)]
  rw [show (5000 : Nat) = 4997 + 1 + 1 + 1 from rfl, show (0 : Int32) = nI 0 from rfl, two _ _ _ 0 (by decide)]
  rw [f_X9_stepOf_5, if_neg (by decide)]
  rw [show (5000 : Nat) = 4997 + 1 + 1 + 1 from rfl, show (0 : Int32) = nI 0 from rfl, two _ _ _ 1 (by decide)]
  rw [f_X9_stepOf_5, if_pos (by decide)]
  dsimp only [bindv]
  have hb4 : br 1 (Int32.toNatClampNeg 4) = nI (v 4) := hb 4 (by decide)
  have hb5 : br 1 (Int32.toNatClampNeg 5) = nI (v 5) := hb 5 (by decide)
  rw [hb4, hb5]
  refine congrArg some (Eq.trans ?_ (end_ok hv r hx))
  have e : 0 + (1000 - x) * (1000 - x) * ownS v r (2 * 0) + (1000 - x) * x * ownS v r (2 * 0 + 1) + x * (1000 - x) * ownS v r (2 * 1) + x * x * ownS v r (2 * 1 + 1) = (1000 - x) * (1000 - x) * ownS v r 0 + (1000 - x) * x * (ownS v r 1 + ownS v r 2) + x * x * ownS v r 3 := by
    rw [Nat.mul_comm x (1000 - x), Nat.mul_add]
    simp
    omega
  simp only [if_pos, if_neg (show ¬ (0 = 1) by decide), if_true] at *
  rw [e]
