theorem n10 : ¬ ((1 : Int32) = 0) := by decide
/-! the plain calls: fault, village, least, does, feed, step, from, helped, fit -/
theorem st_fault {fi : Nat → Int32} {fl : Nat → Int64} {ar : Nat → Nat → Int32} {gi : Nat → Int32} {gl : Nat → Int64} {br : Nat → Nat → Int32} (h : Rel fi fl ar gi gl br) : ∃ (r : Int32), f_X8_fault fi = r ∧ f_X9_fault gi = r ∧ Rel fi fl ar gi gl br := by
  have h' := h
  obtain ⟨v, -, -, -, he, -⟩ := h'
  exact ⟨fi 10, rfl, he.symm, h⟩
theorem in9 (a : Int32) : f_X9_in (Int32.toInt64 a) 0 9 = f_X8_within a 0 9 := within_in a 0 9 0 9 (by decide) (by decide)
theorem st_village {fi : Nat → Int32} {fl : Nat → Int64} {ar : Nat → Nat → Int32} {gi : Nat → Int32} {gl : Nat → Int64} {br : Nat → Nat → Int32} (h : Rel fi fl ar gi gl br) (a0 : Int32) : ∃ (r : Int32), f_X8_village fi a0 = r ∧ f_X9_village gi br a0 = some r ∧ Rel fi fl ar gi gl br := by
  have h' := h
  obtain ⟨v, ⟨-, hf, hb⟩, ⟨l, -, hl1, hl2⟩, ⟨n, -, hn1, hn2, -⟩, -⟩ := h'
  refine ⟨f_X8_village fi a0, rfl, ?_, h⟩
  unfold f_X9_village
  dsimp only [bindv]
  rw [in9]
  rcases within_c a0 9 (by decide) with q | ⟨q, k, hk, rfl⟩
  · have q' : f_X8_within a0 0 9 = 0 := q
    rw [q', if_pos rfl]
    have ne : ∀ k : Nat, k ≤ 9 → ¬ a0 = nI k := by
      intro k hk e
      rw [e] at q
      rw [within_k (by decide) hk] at q
      exact absurd q (by decide)
    unfold f_X8_village
    rw [if_neg (show ¬ a0 = 0 from ne 0 (by decide)), if_neg (show ¬ a0 = 1 from ne 1 (by decide)), if_neg (show ¬ a0 = 2 from ne 2 (by decide)), if_neg (show ¬ a0 = 3 from ne 3 (by decide)), if_neg (show ¬ a0 = 4 from ne 4 (by decide)), if_neg (show ¬ a0 = 5 from ne 5 (by decide)), if_neg (show ¬ a0 = 6 from ne 6 (by decide)), if_neg (show ¬ a0 = 7 from ne 7 (by decide)), if_neg (show ¬ a0 = 8 from ne 8 (by decide)), if_neg (show ¬ a0 = 9 from ne 9 (by decide))]
  · have q' : f_X8_within (nI k) 0 9 = 1 := q
    rw [q', if_neg (by decide)]
    rcases (show k = 8 ∨ k = 9 ∨ k < 8 by omega) with rfl | rfl | hk8
    · rw [if_pos (by decide)]
      exact congrArg some (hl2.trans hl1.symm)
    · rw [if_neg (by decide), if_pos (by decide)]
      exact congrArg some (hn2.trans hn1.symm)
    · rw [if_neg (fun e => by have := nI_inj (b := 8) (by omega) (by decide) e; omega), if_neg (fun e => by have := nI_inj (b := 9) (by omega) (by decide) e; omega), gd_nI hk8 (by decide), clampN (by omega), hb k hk8, ← hf k hk8]
      have : ∀ k, k < 8 → f_X8_village fi (nI k) = fi (1 + k) := by
        intro k hk
        rcases (show k = 0 ∨ k = 1 ∨ k = 2 ∨ k = 3 ∨ k = 4 ∨ k = 5 ∨ k = 6 ∨ k = 7 by omega) with rfl | rfl | rfl | rfl | rfl | rfl | rfl | rfl <;> rfl
      rw [this k hk8]
theorem st_least {fi : Nat → Int32} {fl : Nat → Int64} {ar : Nat → Nat → Int32} {gi : Nat → Int32} {gl : Nat → Int64} {br : Nat → Nat → Int32} (h : Rel fi fl ar gi gl br) (a0 : Int32) : ∃ (r : Int32) (fi' : Nat → Int32) (gi' : Nat → Int32), f_X8_least fi a0 = some (r, fi') ∧ f_X9_least gi a0 = some (r, gi') ∧ Rel fi' fl ar gi' gl br := by
  have e9 : f_X9_in (Int32.toInt64 a0) 0 999999 = f_X8_within a0 0 999999 := within_in a0 0 999999 0 999999 (by decide) (by decide)
  rcases within_c a0 999999 (by decide) with q | ⟨q, k, hk, rfl⟩
  · have q' : f_X8_within a0 0 999999 = 0 := q
    refine ⟨-1002, fi, gi, ?_, ?_, h⟩
    · unfold f_X8_least
      dsimp only [bindv]
      rw [q', if_pos rfl]
    · unfold f_X9_least
      dsimp only [bindv]
      rw [e9, q', if_pos rfl]
  · have q' : f_X8_within (nI k) 0 999999 = 1 := q
    obtain ⟨v, ⟨hv, hf, hb⟩, ⟨l, hl, hl1, hl2⟩, ⟨n, t1, t2, t3, t4⟩, h10, hw, hc, hs⟩ := h
    refine ⟨fi 0, upd fi 0 (nI k), upd gi 0 (nI k), ?_, ?_, v, ⟨hv, fun j hj => ?_, hb⟩, ⟨k, hk, upd_eq _ _ _, upd_eq _ _ _⟩, ⟨n, t1, ?_, ?_, t4⟩, ?_, hw, hc, ?_⟩
    · unfold f_X8_least
      dsimp only [bindv]
      rw [q', if_neg (by decide)]
    · unfold f_X9_least
      dsimp only [bindv]
      rw [e9, q', if_neg (by decide), hl1, hl2]
    · rw [upd_ne _ _ (by omega)]; exact hf j hj
    · rw [upd_ne _ _ (by decide)]; exact t2
    · rw [upd_ne _ _ (by decide)]; exact t3
    · rw [upd_ne _ _ (by decide), upd_ne _ _ (by decide)]; exact h10
    · unfold RSv
      rw [upd_ne _ _ (by decide), upd_ne _ _ (by decide), upd_ne _ _ (by decide)]
      exact hs
theorem st_does {fi : Nat → Int32} {fl : Nat → Int64} {ar : Nat → Nat → Int32} {gi : Nat → Int32} {gl : Nat → Int64} {br : Nat → Nat → Int32} (h : Rel fi fl ar gi gl br) (a0 : Int32) (a1 : Int32) (a2 : Int32) (a3 : Int32) : ∃ (r : Int32), f_X8_does a0 a1 a2 a3 = r ∧ f_X9_does a0 a1 a2 a3 = r ∧ Rel fi fl ar gi gl br := by
  refine ⟨f_X8_does a0 a1 a2 a3, rfl, ?_, h⟩
  unfold f_X9_does f_X8_does
  dsimp only [bindv]
  have e3 : f_X9_in (Int32.toInt64 a3) (-1) 1 = f_X8_within a3 (-1) 1 := within_in a3 (-1) 1 (-1) 1 (by decide) (by decide)
  rw [rule9, name9, name9, e3]
  rcases rule_c a0 with q | ⟨q, r, hr, rfl⟩
  · rw [q, if_pos rfl, if_pos rfl]
  rw [q, if_neg n10, if_neg n10]
  rcases within_c a1 1 (by decide) with q1 | ⟨q1, d, hd, rfl⟩
  · have q1' : f_X8_within a1 0 1 = 0 := q1
    rw [q1', if_pos rfl, if_pos rfl]
  have q1' : f_X8_within (nI d) 0 1 = 1 := q1
  rw [q1', if_neg n10, if_neg n10]
  rcases within_c a2 1 (by decide) with q2 | ⟨q2, s, hs, rfl⟩
  · have q2' : f_X8_within a2 0 1 = 0 := q2
    rw [q2', if_pos rfl, if_pos rfl]
  have q2' : f_X8_within (nI s) 0 1 = 1 := q2
  rw [q2', if_neg n10, if_neg n10]
  by_cases q3 : f_X8_within a3 (-1) 1 = 0
  · rw [if_pos q3, if_pos q3]
  rw [if_neg q3, if_neg q3]
  rw [mod16_ok hr, div16_ok hr, wayOf_ok hr, namOf_ok hr]
  by_cases q4 : a3 = -1
  · rw [if_pos q4, if_pos q4, means_ok (by omega) (by omega) (by omega), lit_nI 2, pk_mul, nI_add, bit8 (by omega) (by omega)]
  · rw [if_neg q4, if_neg q4]
    have : ∃ t, t < 2 ∧ a3 = nI t := by
      unfold f_X8_within at q3
      by_cases c1 : a3 < -1
      · rw [if_pos c1] at q3; exact absurd rfl q3
      · rw [if_neg c1] at q3
        by_cases c2 : 1 < a3
        · rw [if_pos c2] at q3; exact absurd rfl q3
        · rw [Int32.lt_iff_toInt_lt] at c1 c2
          have e1 : (-1 : Int32).toInt = -1 := by decide
          have e2 : (1 : Int32).toInt = 1 := by decide
          have e4 : a3.toInt ≠ -1 := fun e => q4 (Int32.toInt_inj.mp (by rw [e, e1]))
          rcases (show a3.toInt = 0 ∨ a3.toInt = 1 by omega) with z | z
          · exact ⟨0, by decide, Int32.toInt_inj.mp (by rw [z]; decide)⟩
          · exact ⟨1, by decide, Int32.toInt_inj.mp (by rw [z]; decide)⟩
    obtain ⟨t, ht, rfl⟩ := this
    rw [calls_ok (by omega) (by omega) (by omega) ht, lit_nI 2, lit_nI 4, pk_mul, pk_mul, nI_add, nI_add, bit8 (by omega) (by omega)]
/-- what Rel keeps when live, go and their like have been at work -/
theorem Rel.keep {fi fi' : Nat → Int32} {fl fl' : Nat → Int64} {ar ar' : Nat → Nat → Int32} {gi gi' : Nat → Int32} {gl gl' : Nat → Int64} {br br' : Nat → Nat → Int32} (h : Rel fi fl ar gi gl br) (h1 : ∀ k, k < 22 ∨ 30 < k → fi' k = fi k) (h2 : ∀ q, q ≠ 6 → q ≠ 7 → q ≠ 9 → q ≠ 10 → ar' q = ar q) (h3 : ∀ y, y ≤ 1000 → ar' 10 y = 0) (h4 : ∀ q, q < 8 ∨ 10 < q → gi' q = gi q) (h5 : ∀ q, q ≠ 4 → br' q = br q) : Rel fi' fl' ar' gi' gl' br' := by
  obtain ⟨v, ⟨hv, hf, hb⟩, ⟨l, hl, hl1, hl2⟩, ⟨n, t1, t2, t3, t4⟩, h10, hw, hc, hs⟩ := h
  refine ⟨v, ⟨hv, fun j hj => by rw [h1 _ (by omega)]; exact hf j hj, fun k hk => by rw [h5 1 (by decide)]; exact hb k hk⟩, ⟨l, hl, by rw [h1 _ (by omega)]; exact hl1, by rw [h4 _ (by omega)]; exact hl2⟩, ⟨n, t1, by rw [h1 _ (by omega)]; exact t2, by rw [h4 _ (by omega)]; exact t3, ?_⟩, by rw [h1 _ (by omega), h4 _ (by omega)]; exact h10, ?_, h3, ?_⟩
  · rw [h2 3 (by decide) (by decide) (by decide) (by decide), h5 3 (by decide)]; exact t4
  · unfold RVw
    rw [h2 16 (by decide) (by decide) (by decide) (by decide), h2 17 (by decide) (by decide) (by decide) (by decide), h5 5 (by decide), h5 6 (by decide)]; exact hw
  · unfold RSv
    rw [h2 14 (by decide) (by decide) (by decide) (by decide), h1 31 (by omega), h1 32 (by omega), h1 33 (by omega)]; exact hs
theorem vil_e {v : Nat → Nat} {fi : Nat → Int32} (hf : ∀ k, k < 8 → fi (1 + k) = nI (v k)) : fi 4 = nI (v 3) := hf 3 (by decide)
theorem st_step {fi : Nat → Int32} {fl : Nat → Int64} {ar : Nat → Nat → Int32} {gi : Nat → Int32} {gl : Nat → Int64} {br : Nat → Nat → Int32} (h : Rel fi fl ar gi gl br) (a0 : Int32) (a1 : Int32) : ∃ (r : Int32) (fi' : Nat → Int32) (ar' : Nat → Nat → Int32), f_X8_step fi ar a0 a1 = some (r, fi', ar') ∧ f_X9_step br a0 a1 = some r ∧ Rel fi' fl ar' gi gl br := by
  rcases rule_c a0 with q | ⟨q, r, hr, rfl⟩
  · refine ⟨-1002, fi, ar, ?_, ?_, h⟩
    · unfold f_X8_step
      dsimp only [bindv]
      rw [q, if_pos rfl]
    · unfold f_X9_step
      dsimp only [bindv]
      rw [rule9, q, if_pos rfl]
  rcases share_c a1 with q1 | ⟨q1, x, hx, rfl⟩
  · refine ⟨-1002, fi, ar, ?_, ?_, h⟩
    · unfold f_X8_step
      dsimp only [bindv]
      rw [q, if_neg (by decide), q1, if_pos rfl]
    · unfold f_X9_step
      dsimp only [bindv]
      rw [rule9, q, if_neg (by decide), share9, q1, if_pos rfl]
  have h' := h
  obtain ⟨v, ⟨hv, hf, hb⟩, -, -, -, -, hc, -⟩ := h'
  obtain ⟨f1, a1, r1, r2, r3, r4⟩ := live_ok (ar := ar) hv hr hv.2.2.2.1 hf
  rw [eye_self] at r2
  refine ⟨nI (stS v r x), f1, a1, ?_, ?_, h.keep (fun k hk => r3 k (by omega)) (fun q h6 h7 _ _ => r4 q h6 h7) (fun y hy => by rw [r4 10 (by decide) (by decide)]; exact hc y hy) (fun _ _ => rfl) (fun _ _ => rfl)⟩
  · unfold f_X8_step
    dsimp only [bindv]
    rw [q, if_neg (by decide), q1, if_neg (by decide), vil_e hf, r1]
    show some (f_X1_next f1 a1 (nI x), f1, a1) = _
    rw [next_ok hv hx r2]
  · unfold f_X9_step
    dsimp only [bindv]
    rw [rule9, q, if_neg (by decide), share9, q1, if_neg (by decide), stepOf_ok hv hb hr hx]
    rfl
theorem rest_ok {f : Nat → Nat} {x : Nat} {fi : Nat → Int32} (h29 : fi 29 = nI (ringS f x)) (h30 : fi 30 = nI (endS f x)) (hr : ringS f x ≤ 1001) : f_X7_rest fi = restI f x := by
  unfold f_X7_rest restI
  rw [h29, h30]
  by_cases q : ringS f x = 1
  · rw [if_pos q, if_pos (by rw [q]; rfl)]
  · rw [if_neg q, if_neg (fun e => q ((one_iff (by omega)).mp e))]
theorem st_from {fi : Nat → Int32} {fl : Nat → Int64} {ar : Nat → Nat → Int32} {gi : Nat → Int32} {gl : Nat → Int64} {br : Nat → Nat → Int32} (h : Rel fi fl ar gi gl br) (a0 : Int32) (a1 : Int32) (a2 : Int32) : ∃ (r : Int32) (fi' : Nat → Int32) (ar' : Nat → Nat → Int32) (gi' : Nat → Int32) (br' : Nat → Nat → Int32), f_X8_from fi ar a0 a1 a2 = some (r, fi', ar') ∧ f_X9_from gi br a0 a1 a2 = some (r, gi', br') ∧ Rel fi' fl ar' gi' gl br' := by
  have e9 : f_X9_in (Int32.toInt64 a2) 0 2 = f_X8_within a2 0 2 := within_in a2 0 2 0 2 (by decide) (by decide)
  rcases rule_c a0 with q | ⟨q, r, hr, rfl⟩
  · refine ⟨-1002, fi, ar, gi, br, ?_, ?_, h⟩
    · unfold f_X8_from
      dsimp only [bindv]
      rw [q, if_pos rfl]
    · unfold f_X9_from
      dsimp only [bindv]
      rw [rule9, q, if_pos rfl]
  rcases share_c a1 with q1 | ⟨q1, x, hx, rfl⟩
  · refine ⟨-1002, fi, ar, gi, br, ?_, ?_, h⟩
    · unfold f_X8_from
      dsimp only [bindv]
      rw [q, if_neg (by decide), q1, if_pos rfl]
    · unfold f_X9_from
      dsimp only [bindv]
      rw [rule9, q, if_neg (by decide), share9, q1, if_pos rfl]
  by_cases q2 : f_X8_within a2 0 2 = 0
  · refine ⟨-1002, fi, ar, gi, br, ?_, ?_, h⟩
    · unfold f_X8_from
      dsimp only [bindv]
      rw [q, if_neg (by decide), q1, if_neg (by decide), if_pos q2]
    · unfold f_X9_from
      dsimp only [bindv]
      rw [rule9, q, if_neg (by decide), share9, q1, if_neg (by decide), e9, if_pos q2]
  have h' := h
  obtain ⟨v, ⟨hv, hf, hb⟩, -, -, -, -, hc, -⟩ := h'
  obtain ⟨f1, b1, r1, r2, r3, r4⟩ := live_ok (ar := ar) hv hr hv.2.2.2.1 hf
  rw [eye_self] at r2
  obtain ⟨f2, b2, s1, s28, s29, s30, s4, s5, s6, s7, s8, s9⟩ := go_ok hv hx r2 (fun y hy => by rw [r4 10 (by decide) (by decide)]; exact hc y hy)
  obtain ⟨g2, c2, t1, t9, t10, t8, t4, t5⟩ := goFrom_ok hv hb hr hx gi
  have hrel : Rel f2 fl b2 g2 gl c2 := h.keep (fun k hk => (s7 k (by omega)).trans (r3 k (by omega))) (fun q h6 h7 h9 h10 => (s8 q h9 h10).trans (r4 q h6 h7)) s9 t4 t5
  have c8 : f_X8_from fi ar (nI r) (nI x) a2 = (if (a2 = 0 : Prop) then (bindv (f_X7_rest f2) (fun r_18 => some (r_18, f2, b2))) else (if (a2 = 1 : Prop) then (some ((f2 28), f2, b2)) else (some ((f2 29), f2, b2)))) := by
    unfold f_X8_from
    dsimp only [bindv]
    rw [q, if_neg (by decide), q1, if_neg (by decide), if_neg q2, vil_e hf, r1]
    simp only [bind2_some]
    rw [s1]
    rfl
  have c9 : f_X9_from gi br (nI r) (nI x) a2 = (if (a2 = 0 : Prop) then (some ((g2 8), g2, c2)) else (if (a2 = 1 : Prop) then (some ((g2 9), g2, c2)) else (some ((g2 10), g2, c2)))) := by
    unfold f_X9_from
    dsimp only [bindv]
    rw [rule9, q, if_neg (by decide), share9, q1, if_neg (by decide), e9, if_neg q2, t1]
    rfl
  rw [c8, c9]
  by_cases p0 : a2 = 0
  · rw [if_pos p0, if_pos p0]
    exact ⟨restI (stS v r) x, f2, b2, g2, c2, by unfold bindv; rw [rest_ok s29 s30 s6], by rw [t8], hrel⟩
  rw [if_neg p0, if_neg p0]
  by_cases p1 : a2 = 1
  · rw [if_pos p1, if_pos p1]
    exact ⟨_, f2, b2, g2, c2, by rw [s28], by rw [t9], hrel⟩
  · rw [if_neg p1, if_neg p1]
    exact ⟨_, f2, b2, g2, c2, by rw [s29], by rw [t10], hrel⟩
