/-! another: class live, model findOther -/
theorem cgS_le {v : Nat → Nat} (hv : Vok v) (nm q d : Nat) {x : Nat} (hx : x ≤ 1000) : cgS v nm q d x ≤ 10000000 := by
  unfold cgS
  have h1 := Nat.mul_le_mul_left (1000 - x) (odS_le hv.2.2.1 hv.2.2.2.1 nm (2 * d) (bN q (2 * d)))
  have h2 := Nat.mul_le_mul_left x (odS_le hv.2.2.1 hv.2.2.2.1 nm (2 * d + 1) (bN q (2 * d + 1)))
  omega
theorem zS_e {v : Nat → Nat} (hv : Vok v) (nm q : Nat) {x : Nat} (hx : x ≤ 1000) : cgS v nm q 0 x ≤ zS v nm q x ∧ zS v nm q x ≤ 20000000 := by
  have := cgS_le hv nm q 0 hx
  unfold zS
  omega
theorem tm_b {v : Nat → Nat} (hv : Vok v) (nm q : Nat) {x : Nat} (hx : x ≤ 1000) : 0 < tmN v nm q x ∧ tmN v nm q x ≤ 20000000 ∧ gdS v nm q x ≤ tmN v nm q x := by
  have := zS_e hv nm q hx
  unfold tmN gdS
  by_cases c : zS v nm q x = 0
  · rw [if_pos c, if_pos c]; omega
  · rw [if_neg c, if_neg c]; omega
theorem two_le {a b x : Nat} (ha : a < 2) (hb : b < 2) (hx : x ≤ 1000) : a * (1000 - x) + b * x ≤ 1000 := by
  have h1 : a * (1000 - x) ≤ 1 * (1000 - x) := Nat.mul_le_mul_right _ (by omega)
  have h2 : b * x ≤ 1 * x := Nat.mul_le_mul_right _ (by omega)
  omega
theorem gtN_le (w n : Nat) {x : Nat} (hx : x ≤ 1000) : gtN w n x ≤ 1000 := two_le (bN_lt _ _) (bN_lt _ _) hx
theorem gvN_le (q n : Nat) {x : Nat} (hx : x ≤ 1000) : gvN q n x ≤ 1000 := two_le (bN_lt _ _) (bN_lt _ _) hx
theorem wb_b {v : Nat → Nat} (hv : Vok v) (w q n : Nat) {x : Nat} (hx : x ≤ 1000) : -99000 ≤ wbS v w q n x ∧ wbS v w q n x ≤ 99000 := by
  have h1 := Nat.mul_le_mul hv.2.1 (gtN_le w n hx)
  have h2 := Nat.mul_le_mul hv.1 (gvN_le q n hx)
  unfold wbS
  rw [← Int.natCast_mul, ← Int.natCast_mul]
  omega
theorem mix_b {a t : Nat} {w1 w0 : Int} (h : a ≤ t) (h1 : -99000 ≤ w1 ∧ w1 ≤ 99000) (h0 : -99000 ≤ w0 ∧ w0 ≤ 99000) : -((t : Int) * 99000) ≤ (a : Int) * w1 + ((t : Int) - (a : Int)) * w0 ∧ (a : Int) * w1 + ((t : Int) - (a : Int)) * w0 ≤ (t : Int) * 99000 := by
  have e1 : (a : Int) * w1 ≤ (a : Int) * 99000 := Int.mul_le_mul_of_nonneg_left h1.2 (by omega)
  have e2 : (a : Int) * (-99000) ≤ (a : Int) * w1 := Int.mul_le_mul_of_nonneg_left h1.1 (by omega)
  have e3 : ((t : Int) - (a : Int)) * w0 ≤ ((t : Int) - (a : Int)) * 99000 := Int.mul_le_mul_of_nonneg_left h0.2 (by omega)
  have e4 : ((t : Int) - (a : Int)) * (-99000) ≤ ((t : Int) - (a : Int)) * w0 := Int.mul_le_mul_of_nonneg_left h0.1 (by omega)
  omega
theorem has_b {v : Nat → Nat} (hv : Vok v) (r q : Nat) {x : Nat} (hx : x ≤ 1000) : -1980000000000 ≤ hasS v r q x ∧ hasS v r q x ≤ 1980000000000 := by
  obtain ⟨t0, t1, t2⟩ := tm_b hv (r / 16) q hx
  have := mix_b t2 (wb_b hv (r % 16) q 1 hx) (wb_b hv (r % 16) q 0 hx)
  unfold hasS
  omega
/-- class: how often called good -/
theorem cg1_ok {v : Nat → Nat} (hv : Vok v) {r q x : Nat} (hq : q < 16) (hx : x ≤ 1000) {fi : Nat → Int32} {ar : Nat → Nat → Int32} (h : Lived v r fi ar) {d : Nat} (hd : d < 2) : f_X1_calledGood ar (nI q) (nI d) (nI x) = some (lN (cgS v (r / 16) q d x)) := by
  have h6 := h.2.2.2.2.2.2.1
  have pick : ∀ j, j < 4 → ar 6 (2 * j + bN q j) = nI (odS v (r / 16) j (bN q j)) := by
    intro j hj
    rcases bN_or q j with e | e
    · rw [e]; exact (h6 j hj).1
    · rw [e]; exact (h6 j hj).2
  have o1 := odS_le hv.2.2.1 hv.2.2.2.1 (r / 16) (2 * d) (bN q (2 * d))
  have o2 := odS_le hv.2.2.1 hv.2.2.2.1 (r / 16) (2 * d + 1) (bN q (2 * d + 1))
  have l1 := bN_lt q (2 * d)
  have l2 := bN_lt q (2 * d + 1)
  unfold f_X1_calledGood
  rw [bindv_def, bindv_def, bindv_def]
  have e1 : (4 * (nI d &&& 1) : Int32) = nI (4 * d) := by
    rcases (show d = 0 ∨ d = 1 by omega) with rfl | rfl <;> decide
  have e2 : nI (4 * d) >>> ((1 : Int32) &&& 31) = nI (2 * d) := by
    rcases (show d = 0 ∨ d = 1 by omega) with rfl | rfl <;> decide
  rw [e1, e2, nI_1, bit8 (by omega) (by omega), bit8 (by omega) (by omega), lit_nI 2, nI_add, nI_add, nI_add, gd_nI (by omega) (by decide), gd_nI (by omega) (by decide), clampN (by omega), clampN (by omega)]
  rw [show 4 * d + bN q (2 * d) = 2 * (2 * d) + bN q (2 * d) by omega, show 4 * d + 2 + bN q (2 * d + 1) = 2 * (2 * d + 1) + bN q (2 * d + 1) by omega, pick _ (by omega), pick _ (by omega)]
  rw [lit_nI 1000, pk_sub (a := 1000) (b := x) hx, toL (by omega), toL (by omega), toL (by omega), toL (by omega), lN_mul, lN_mul, lN_add]
  rfl
theorem wb_ok {v : Nat → Nat} (hv : Vok v) {r q x : Nat} (hq : q < 16) (hx : x ≤ 1000) {fi : Nat → Int32} {ar : Nat → Nat → Int32} (h : Lived v r fi ar) {d : Nat} (hd : d < 2) : f_X0_worthBeing fi (nI d) (nI q) (nI x) = lI (wbS v (r % 16) q d x) := by
  have g1 := gtN_le (r % 16) d hx
  have g2 := gvN_le q d hx
  have h0 := hv.1
  have h1 := hv.2.1
  unfold f_X0_worthBeing
  simp only [bindv_def]
  rw [h.1, h.2.1, h.2.2.1, lit_nI 1000, pk_sub (a := 1000) (b := x) hx, lit_nI 2, pk_mul, nI_add, nI_1, bit8 (by omega) (by omega), bit8 (by omega) (by omega), bit8 (by omega) (by omega), bit8 (by omega) (by omega)]
  simp only [pk_mul, nI_add]
  show Int32.toInt64 (nI (v 1)) * Int32.toInt64 (nI (gtN (r % 16) d x)) - Int32.toInt64 (nI (v 0)) * Int32.toInt64 (nI (gvN q d x)) = _
  rw [toL (by omega), toL (by omega), toL (by omega), toL (by omega), lN_lI, lN_lI, lN_lI, lN_lI, lI_mul, lI_mul, lI_sub]
  rfl
def Lv (v : Nat → Nat) (r q x : Nat) (fl fl' : Nat → Int64) : Prop := fl' 0 = lN (gdS v (r / 16) q x) ∧ fl' 1 = lN (tmN v (r / 16) q x) ∧ fl' 2 = lI (hasS v r q x / (tmN v (r / 16) q x : Int)) ∧ fl' 3 = lI (hasS v r q x % (tmN v (r / 16) q x : Int)) ∧ fl' 4 = lI (hasS v r q x) ∧ ∀ k, 4 < k → fl' k = fl k
theorem live0_ok {v : Nat → Nat} (hv : Vok v) {r q x : Nat} (hq : q < 16) (hx : x ≤ 1000) {fi : Nat → Int32} {ar : Nat → Nat → Int32} (h : Lived v r fi ar) (fl : Nat → Int64) : ∃ fl', f_X0_live fi fl ar (nI q) (nI x) = some fl' ∧ Lv v r q x fl fl' := by
  have c1 : f_X1_calledGood ar (nI q) 1 (nI x) = some (lN (cgS v (r / 16) q 1 x)) := cg1_ok hv hq hx h (d := 1) (by decide)
  have c0 : f_X1_calledGood ar (nI q) 0 (nI x) = some (lN (cgS v (r / 16) q 0 x)) := cg1_ok hv hq hx h (d := 0) (by decide)
  have w1 : f_X0_worthBeing fi 1 (nI q) (nI x) = lI (wbS v (r % 16) q 1 x) := wb_ok hv hq hx h (d := 1) (by decide)
  have w0 : f_X0_worthBeing fi 0 (nI q) (nI x) = lI (wbS v (r % 16) q 0 x) := wb_ok hv hq hx h (d := 0) (by decide)
  have b1 := cgS_le hv (r / 16) q 1 hx
  have bz := zS_e hv (r / 16) q hx
  obtain ⟨t0, t1, t2⟩ := tm_b hv (r / 16) q hx
  have hh := has_b hv r q hx
  have hz : (10000000 : Int64) - lN (cgS v (r / 16) q 1 x) + lN (cgS v (r / 16) q 0 x) = lN (zS v (r / 16) q x) := by
    rw [show (10000000 : Int64) = lN 10000000 from rfl, lN_sub b1, lN_add]; rfl
  have fin : ∀ f : Nat → Int64, f 0 = lN (gdS v (r / 16) q x) → f 1 = lN (tmN v (r / 16) q x) → (∀ k, 4 < k → f k = fl k) → ∃ fl', f_X0_live_56 fi ar (nI q) (nI x) f = some fl' ∧ Lv v r q x fl fl' := by
    intro f e0 e1 ek
    obtain ⟨f1, ef1⟩ : ∃ z, z = vp_updL f 4 (lI (hasS v r q x)) := ⟨_, rfl⟩
    obtain ⟨f2, ef2⟩ : ∃ z, z = vp_updL f1 2 (lI (hasS v r q x / (tmN v (r / 16) q x : Int))) := ⟨_, rfl⟩
    obtain ⟨f3, ef3⟩ : ∃ z, z = vp_updL f2 3 (lI (hasS v r q x % (tmN v (r / 16) q x : Int))) := ⟨_, rfl⟩
    have g : ∀ k, f3 k = if k = 3 then lI (hasS v r q x % (tmN v (r / 16) q x : Int)) else if k = 2 then lI (hasS v r q x / (tmN v (r / 16) q x : Int)) else if k = 4 then lI (hasS v r q x) else f k := by
      intro k; subst ef3; subst ef2; subst ef1; simp [vp_updL]
    have e14 : f1 4 = lI (hasS v r q x) := by rw [ef1, pk_uLs]
    have e11 : f1 1 = lN (tmN v (r / 16) q x) := by rw [ef1, pk_uLn (by decide), e1]
    have e24 : f2 4 = lI (hasS v r q x) := by rw [ef2, pk_uLn (by decide), e14]
    have e21 : f2 1 = lN (tmN v (r / 16) q x) := by rw [ef2, pk_uLn (by decide), e11]
    have e22 : f2 2 = lI (hasS v r q x / (tmN v (r / 16) q x : Int)) := by rw [ef2, pk_uLs]
    have eh : lN (gdS v (r / 16) q x) * lI (wbS v (r % 16) q 1 x) + (lN (tmN v (r / 16) q x) - lN (gdS v (r / 16) q x)) * lI (wbS v (r % 16) q 0 x) = lI (hasS v r q x) := by
      rw [lN_lI, lN_lI, lI_sub, lI_mul, lI_mul, lI_add]; rfl
    refine ⟨f3, ?_, ⟨by rw [g]; simp [e0], by rw [g]; simp [e1], by rw [g]; simp, by rw [g]; simp, by rw [g]; simp, fun k hk => ?_⟩⟩
    · unfold f_X0_live_56
      rw [bindv_def, bindv_def, bindv_def, w1, w0, e0, e1, eh, ← ef1, e14, e11, lN_lI, floorDiv_ok (by omega) (by omega) (by omega) (by omega), bind1_some, bindv_def, bindv_def, ← ef2, e24, e22, e21, lN_lI, lI_mul, lI_sub, Int.mul_comm, ← Int.emod_def, ← ef3]
    · rw [g, if_neg (by omega), if_neg (by omega), if_neg (by omega)]; exact ek k hk
  unfold f_X0_live
  rw [c1, bind1_some, c0, bind1_some, bindv_def, bindv_def, hz]
  have eg : (0 < lg_cmp (vp_updL (vp_updL fl 0 (lN (cgS v (r / 16) q 0 x))) 1 (lN (zS v (r / 16) q x)) 1) 0) ↔ 0 < zS v (r / 16) q x := by
    rw [pk_uLs, lg_cmp_gt]; exact pk_lLT (a := 0) (by decide) (by omega)
  by_cases c : zS v (r / 16) q x = 0
  · rw [if_neg (fun z => by have := eg.mp z; omega), bindv_def, bindv_def]
    refine fin _ ?_ ?_ ?_
    · rw [pk_uLn (by decide), pk_uLs, show gdS v (r / 16) q x = 0 from if_pos c]; rfl
    · rw [pk_uLs, show tmN v (r / 16) q x = 1 from if_pos c]; rfl
    · intro k hk
      rw [pk_uLn (by omega), pk_uLn (by omega), pk_uLn (by omega), pk_uLn (by omega)]
  · rw [if_pos (eg.mpr (by omega))]
    refine fin _ ?_ ?_ ?_
    · rw [pk_uLn (by decide), pk_uLs, show gdS v (r / 16) q x = _ from if_neg c]
    · rw [pk_uLs, show tmN v (r / 16) q x = _ from if_neg c]
    · intro k hk
      rw [pk_uLn (by omega), pk_uLn (by omega)]
