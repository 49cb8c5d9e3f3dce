/-! helped, fit -/
theorem mn_le {a x b0 b1 b2 b3 : Nat} (h : a + x = 1000) (h0 : b0 < 2) (h1 : b1 < 2) (h2 : b2 < 2) (h3 : b3 < 2) : b0 * (a * a) + (b1 + b2) * (a * x) + b3 * (x * x) ≤ 1000000 := by
  have c0 : b0 * (a * a) ≤ 1 * (a * a) := Nat.mul_le_mul_right _ (by omega)
  have c1 : (b1 + b2) * (a * x) ≤ 2 * (a * x) := Nat.mul_le_mul_right _ (by omega)
  have c3 : b3 * (x * x) ≤ 1 * (x * x) := Nat.mul_le_mul_right _ (by omega)
  have e : (a + x) * (a + x) = a * a + 2 * (a * x) + x * x := by
    rw [Nat.add_mul, Nat.mul_add, Nat.mul_add, Nat.mul_comm x a]; omega
  rw [h] at e
  omega
theorem mnS_le (v : Nat → Nat) (r : Nat) {x : Nat} (hx : x ≤ 1000) : mnS v r x ≤ 1000000 := mn_le (by omega) (bN_lt _ _) (bN_lt _ _) (bN_lt _ _) (bN_lt _ _)
theorem hpS_le {v : Nat → Nat} (r : Nat) {x : Nat} (hx : x ≤ 1000) : hpS v r x ≤ 1000000 := by
  have h := mnS_le v r hx
  unfold hpS
  have c : mnS v r x * (100 - v 2) ≤ mnS v r x * 100 := Nat.mul_le_mul_left _ (by omega)
  omega
theorem aid_ok {v : Nat → Nat} (h2 : v 2 ≤ 50) {r x : Nat} (hx : x ≤ 1000) {fi : Nat → Int32} (e22 : fi 22 = nI (r % 16)) (e25 : fi 25 = nI (100 - v 2)) : f_X1_aid fi (nI x) = nI (hpS v r x) := by
  have hm := mnS_le v r hx
  have c : mnS v r x * (100 - v 2) ≤ mnS v r x * 100 := Nat.mul_le_mul_left _ (by omega)
  unfold f_X1_aid
  dsimp only [bindv]
  rw [e22, e25, lit_nI 1000, lit_nI 0, lit_nI 1, lit_nI 2, lit_nI 3, bit8 (by omega) (by omega), bit8 (by omega) (by omega), bit8 (by omega) (by omega), bit8 (by omega) (by omega), pk_sub (a := 1000) (b := x) hx]
  simp only [pk_mul, nI_add]
  have e : bN (r % 16) 0 * (1000 - x) * (1000 - x) + (bN (r % 16) 1 + bN (r % 16) 2) * (1000 - x) * x + bN (r % 16) 3 * x * x = mnS v r x := by
    unfold mnS
    rw [Nat.mul_assoc, Nat.mul_assoc, Nat.mul_assoc]
  rw [e, toL (by omega), toL (by omega), lN_mul, show (100 : Int64) = lN 100 from rfl, pk_lDiv (by omega) (by decide) (by decide), lN_i]
  rfl
theorem helpedBy_ok {v : Nat → Nat} (h2 : v 2 ≤ 50) {br : Nat → Nat → Int32} (hb : ∀ k, k < 8 → br 1 k = nI (v k)) {r x : Nat} (hr : r < 4096) (hx : x ≤ 1000) : f_X9_helpedBy br (nI r) (nI x) = some (nI (hpS v r x)) := by
  have one : ∀ (k : Int32 → Int32 → Int32 → Int32 → Option Int32) (n S d s : Nat), d < 2 → s < 2 → f_X9_helpedBy_14 br k (n + 1) (nI r) (nI x) (nI S) (nI d) (nI s) = f_X9_helpedBy_14 br k n (nI r) (nI x) (nI (S + bN (r % 16) (2 * d + s) * (if d = 1 then x else 1000 - x) * (if s = 1 then x else 1000 - x))) (nI d) (nI (s + 1)) := by
    intro k n S d s hd hs
    rw [f_X9_helpedBy_14, if_neg (show ¬ ((2 : Int32) ≤ nI s) from nI_ge (a := s) (b := 2) hs (by decide))]
    dsimp only [bindv]
    rw [shareOf_ok hd hx, shareOf_ok hs hx, mod16_ok hr, means_ok (by omega) hd hs, pk_mul, pk_mul, nI_add, nI_1]
  have two : ∀ (k : Int32 → Int32 → Int32 → Int32 → Option Int32) (n S d : Nat), d < 2 → f_X9_helpedBy_14 br k (n + 1 + 1 + 1) (nI r) (nI x) (nI S) (nI d) (nI 0) = k (nI r) (nI x) (nI (S + bN (r % 16) (2 * d) * (if d = 1 then x else 1000 - x) * (1000 - x) + bN (r % 16) (2 * d + 1) * (if d = 1 then x else 1000 - x) * x)) (nI (d + 1)) := by
    intro k n S d hd
    rw [one k _ S d 0 hd (by decide), one k _ _ d 1 hd (by decide), f_X9_helpedBy_14, if_pos (by decide)]
    dsimp only [bindv]
    rw [nI_1]
    rfl
  have hm := mnS_le v r hx
  have c : mnS v r x * (100 - v 2) ≤ mnS v r x * 100 := Nat.mul_le_mul_left _ (by omega)
  unfold f_X9_helpedBy
  rw [show (5000 : Nat) = 4997 + 1 + 1 + 1 from rfl, show (0 : Int32) = nI 0 from rfl]
  rw [f_X9_helpedBy_5, if_neg (by decide)]
  rw [show (5000 : Nat) = 4997 + 1 + 1 + 1 from rfl, show (0 : Int32) = nI 0 from rfl, two _ _ _ 0 (by decide)]
  rw [f_X9_helpedBy_5, if_neg (by decide)]
  rw [show (5000 : Nat) = 4997 + 1 + 1 + 1 from rfl, show (0 : Int32) = nI 0 from rfl, two _ _ _ 1 (by decide)]
  rw [f_X9_helpedBy_5, if_pos (by decide)]
  have hb2 : br 1 (Int32.toNatClampNeg 2) = nI (v 2) := hb 2 (by decide)
  rw [hb2]
  have e : 0 + bN (r % 16) (2 * 0) * (if 0 = 1 then x else 1000 - x) * (1000 - x) + bN (r % 16) (2 * 0 + 1) * (if 0 = 1 then x else 1000 - x) * x + bN (r % 16) (2 * 1) * (if 1 = 1 then x else 1000 - x) * (1000 - x) + bN (r % 16) (2 * 1 + 1) * (if 1 = 1 then x else 1000 - x) * x = mnS v r x := by
    unfold mnS
    rw [if_neg (by decide), if_pos rfl, Nat.add_mul, Nat.mul_assoc, Nat.mul_assoc, Nat.mul_assoc, Nat.mul_assoc, Nat.mul_comm x (1000 - x)]
    simp
    omega
  rw [e, lit_nI 100, pk_sub (a := 100) (b := v 2) (by omega), pk_mul, pk_div (by omega) (by decide) (by decide)]
  rfl
theorem st_helped {fi : Nat → Int32} {fl : Nat → Int64} {ar : Nat → Nat → Int32} {gi : Nat → Int32} {gl : Nat → Int64} {br : Nat → Nat → Int32} (h : Rel fi fl ar gi gl br) (a0 : Int32) (a1 : Int32) : ∃ (r : Int32) (fi' : Nat → Int32) (ar' : Nat → Nat → Int32), f_X8_helped fi ar a0 a1 = some (r, fi', ar') ∧ f_X9_helped br a0 a1 = some r ∧ Rel fi' fl ar' gi gl br := by
  rcases rule_c a0 with q | ⟨q, r, hr, rfl⟩
  · refine ⟨-1002, fi, ar, ?_, ?_, h⟩
    · unfold f_X8_helped
      dsimp only [bindv]
      rw [q, if_pos rfl]
    · unfold f_X9_helped
      dsimp only [bindv]
      rw [rule9, q, if_pos rfl]
  rcases share_c a1 with q1 | ⟨q1, x, hx, rfl⟩
  · refine ⟨-1002, fi, ar, ?_, ?_, h⟩
    · unfold f_X8_helped
      dsimp only [bindv]
      rw [q, if_neg n10, q1, if_pos rfl]
    · unfold f_X9_helped
      dsimp only [bindv]
      rw [rule9, q, if_neg n10, share9, q1, if_pos rfl]
  have h' := h
  obtain ⟨v, ⟨hv, hf, hb⟩, -, -, -, -, hc, -⟩ := h'
  obtain ⟨f1, a1, r1, r2, r3, r4⟩ := live_ok (ar := ar) hv hr hv.2.2.2.1 hf
  rw [eye_self] at r2
  refine ⟨nI (hpS v r x), f1, a1, ?_, ?_, h.keep (fun k hk => r3 k (by omega)) (fun q h6 h7 _ _ => r4 q h6 h7) (fun y hy => by rw [r4 10 (by decide) (by decide)]; exact hc y hy) (fun _ _ => rfl) (fun _ _ => rfl)⟩
  · unfold f_X8_helped
    dsimp only [bindv]
    rw [q, if_neg n10, q1, if_neg n10, vil_e hf, r1, bind2_some]
    rw [aid_ok hv.2.2.1 hx r2.1 r2.2.2.2.1]
  · unfold f_X9_helped
    dsimp only [bindv]
    rw [rule9, q, if_neg n10, share9, q1, if_neg n10, helpedBy_ok hv.2.2.1 hb hr hx, bind1_some]
theorem fit_loop {f : Nat → Nat} (hf : ∀ x, x ≤ 1000 → f x ≤ 1000) {fi : Nat → Int32} {ar br : Nat → Nat → Int32} {r : Int32} (h8 : ∀ x, x ≤ 1000 → f_X1_next fi ar (nI x) = nI (f x)) (h9 : ∀ x, x ≤ 1000 → f_X9_stepOf br r (nI x) = some (nI (f x))) (i : Int32) :
    ∀ (m n n' x : Nat) (c : Int32), x + m = 1001 → m < n → m < n' → ∃ z, f_X8_fit_35 n i c (nI x) fi ar = some (z, fi, ar) ∧ f_X9_fit_16 br n' r i c (nI x) = some z := by
  intro m
  induction m with
  | zero =>
    intro n n' x c hx hn hn'
    obtain ⟨n, rfl⟩ : ∃ z, n = z + 1 := ⟨n - 1, by omega⟩
    obtain ⟨n', rfl⟩ : ∃ z, n' = z + 1 := ⟨n' - 1, by omega⟩
    have hl : (1000 : Int32) < nI x := nI_lt (a := 1000) (b := x) (by omega) (by omega)
    rw [f_X8_fit_35, if_pos hl, f_X9_fit_16, if_pos hl]
    by_cases q : i = -1
    · rw [if_pos q, if_pos q]; exact ⟨_, rfl, rfl⟩
    · rw [if_neg q, if_neg q]; exact ⟨_, rfl, rfl⟩
  | succ m ih =>
    intro n n' x c hx hn hn'
    obtain ⟨n, rfl⟩ : ∃ z, n = z + 1 := ⟨n - 1, by omega⟩
    obtain ⟨n', rfl⟩ : ∃ z, n' = z + 1 := ⟨n' - 1, by omega⟩
    have hl : ¬ (1000 : Int32) < nI x := nI_nlt (a := 1000) (b := x) (by omega) (by decide)
    rw [f_X8_fit_35, if_neg hl, f_X9_fit_16, if_neg hl]
    dsimp only [bindv]
    rw [h8 x (by omega), h9 x (by omega), bind1_some]
    by_cases q : nI (f x) = nI x
    · rw [if_pos q, if_pos q]
      by_cases q2 : c = i
      · rw [if_pos q2, if_pos q2]; exact ⟨_, rfl, rfl⟩
      · rw [if_neg q2, if_neg q2]
        unfold f_X8_fit_71 f_X9_fit_47
        dsimp only [bindv]
        rw [nI_1]
        exact ih n n' (x + 1) (c + 1) (by omega) (by omega) (by omega)
    · rw [if_neg q, if_neg q]
      unfold f_X8_fit_71 f_X9_fit_47
      dsimp only [bindv]
      rw [nI_1]
      exact ih n n' (x + 1) c (by omega) (by omega) (by omega)
theorem st_fit {fi : Nat → Int32} {fl : Nat → Int64} {ar : Nat → Nat → Int32} {gi : Nat → Int32} {gl : Nat → Int64} {br : Nat → Nat → Int32} (h : Rel fi fl ar gi gl br) (a0 : Int32) (a1 : Int32) : ∃ (r : Int32) (fi' : Nat → Int32) (ar' : Nat → Nat → Int32), f_X8_fit fi ar a0 a1 = some (r, fi', ar') ∧ f_X9_fit br a0 a1 = some r ∧ Rel fi' fl ar' gi gl br := by
  rcases rule_c a0 with q | ⟨q, r, hr, rfl⟩
  · refine ⟨-1002, fi, ar, ?_, ?_, h⟩
    · unfold f_X8_fit
      dsimp only [bindv]
      rw [q, if_pos rfl]
    · unfold f_X9_fit
      dsimp only [bindv]
      rw [rule9, q, if_pos rfl]
  have h' := h
  obtain ⟨v, ⟨hv, hf, hb⟩, -, -, -, -, hc, -⟩ := h'
  obtain ⟨f1, b1, r1, r2, r3, r4⟩ := live_ok (ar := ar) hv hr hv.2.2.2.1 hf
  rw [eye_self] at r2
  obtain ⟨z, e8, e9⟩ := fit_loop (f := stS v r) (fun x hx => stS_le hv r hx) (fi := f1) (ar := b1) (br := br) (r := nI r) (fun x hx => next_ok hv hx r2) (fun x hx => stepOf_ok hv hb hr hx) a1 1001 5000 5000 0 0 (by decide) (by decide) (by decide)
  refine ⟨z, f1, b1, ?_, ?_, h.keep (fun k hk => r3 k (by omega)) (fun q h6 h7 _ _ => r4 q h6 h7) (fun y hy => by rw [r4 10 (by decide) (by decide)]; exact hc y hy) (fun _ _ => rfl) (fun _ _ => rfl)⟩
  · unfold f_X8_fit
    dsimp only [bindv]
    rw [q, if_neg n10, vil_e hf, r1, bind2_some]
    exact e8
  · unfold f_X9_fit
    dsimp only [bindv]
    rw [rule9, q, if_neg n10]
    exact e9
