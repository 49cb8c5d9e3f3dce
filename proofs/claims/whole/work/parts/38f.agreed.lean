/-! agreed, feed -/
def jS (b : Nat → Nat) (i : Nat) : Nat → Nat → Nat
  | 0, _ => 0
  | m + 1, j => (if b i = b j then 1 else 0) + jS b i m (j + 1)
def iS (b : Nat → Nat) : Nat → Nat → Nat
  | 0, _ => 0
  | m + 1, i => jS b i (5 - i) (i + 1) + iS b m (i + 1)
def sS (b : Nat → Nat) : Nat → Nat → Nat
  | 0, _ => 0
  | m + 1, i => b i + sS b m (i + 1)
def prN (s : Nat) : Nat := s * (s - 1) / 2 + (6 - s) * (5 - s) / 2
def alN (s : Nat) : Nat := if s = 0 then 1 else if s = 6 then 1 else 0
def gdN (s : Nat) : Nat := if s = 6 then 1 else 0
theorem iS_pr {b : Nat → Nat} (hb : ∀ k, b k < 2) : iS b 6 0 = prN (sS b 6 0) ∧ sS b 6 0 ≤ 6 := by
  have e1 : iS b 6 0 = ((if b 0 = b 1 then 1 else 0) + ((if b 0 = b 2 then 1 else 0) + ((if b 0 = b 3 then 1 else 0) + ((if b 0 = b 4 then 1 else 0) + ((if b 0 = b 5 then 1 else 0) + 0))))) + (((if b 1 = b 2 then 1 else 0) + ((if b 1 = b 3 then 1 else 0) + ((if b 1 = b 4 then 1 else 0) + ((if b 1 = b 5 then 1 else 0) + 0)))) + (((if b 2 = b 3 then 1 else 0) + ((if b 2 = b 4 then 1 else 0) + ((if b 2 = b 5 then 1 else 0) + 0))) + (((if b 3 = b 4 then 1 else 0) + ((if b 3 = b 5 then 1 else 0) + 0)) + (((if b 4 = b 5 then 1 else 0) + 0) + (0 + 0))))) := rfl
  have e2 : sS b 6 0 = b 0 + (b 1 + (b 2 + (b 3 + (b 4 + (b 5 + 0))))) := rfl
  rw [e1, e2]
  have z0 := hb 0
  have z1 := hb 1
  have z2 := hb 2
  have z3 := hb 3
  have z4 := hb 4
  have z5 := hb 5
  generalize b 0 = x0 at *
  generalize b 1 = x1 at *
  generalize b 2 = x2 at *
  generalize b 3 = x3 at *
  generalize b 4 = x4 at *
  generalize b 5 = x5 at *
  have t : ∀ x : Nat, x < 2 → x = 0 ∨ x = 1 := by omega
  rcases t x0 z0 with rfl | rfl <;> rcases t x1 z1 with rfl | rfl <;> rcases t x2 z2 with rfl | rfl <;> rcases t x3 z3 with rfl | rfl <;> rcases t x4 z4 with rfl | rfl <;> rcases t x5 z5 with rfl | rfl <;> exact ⟨rfl, by decide⟩
theorem pr_dec : ∀ s, s < 7 → (((nI s * (nI s - 1)) / 2) + (((6 - nI s) * ((6 - nI s) - 1)) / 2) : Int32) = nI (prN s) := by decide +kernel
def col (g : Nat → Nat) (c : Nat) : Nat → Nat := fun p => bN (g p) c
theorem callers_loop {ar br : Nat → Nat → Int32} {g k : Nat → Nat} (h : RV1 ar br g k) {c : Nat} (hc : c < 6) : ∀ (m n p s : Nat), p + m = 6 → m < n → f_X5_callersGood_4 ar n (nI c) (nI s) (nI p) = some (nI (s + sS (col g c) m p)) := by
  intro m
  induction m with
  | zero =>
    intro n p s hp hn
    obtain ⟨n, rfl⟩ : ∃ z, n = z + 1 := ⟨n - 1, by omega⟩
    obtain rfl : p = 6 := by omega
    rw [f_X5_callersGood_4, if_pos (by decide)]; rfl
  | succ m ih =>
    intro n p s hp hn
    obtain ⟨n, rfl⟩ : ∃ z, n = z + 1 := ⟨n - 1, by omega⟩
    rw [f_X5_callersGood_4, if_neg (show ¬ ((6 : Int32) ≤ nI p) from nI_ge (a := p) (b := 6) (by omega) (by decide)), name8 h (by omega) hc, bind1_some, bindv_def, bindv_def, nI_add, nI_1, ih n (p + 1) _ (by omega) (by omega), sS, Nat.add_assoc]
    rfl
theorem callers_ok {ar br : Nat → Nat → Int32} {g k : Nat → Nat} (h : RV1 ar br g k) {c : Nat} (hc : c < 6) : f_X5_callersGood ar (nI c) = some (nI (sS (col g c) 6 0)) := by
  unfold f_X5_callersGood
  have := callers_loop h hc 6 5000 0 0 (by decide) (by decide)
  rw [Nat.zero_add] at this
  exact this
def totS (f : Nat → Nat) : Nat → Nat → Nat
  | 0, _ => 0
  | m + 1, c => f c + totS f m (c + 1)
theorem col_lt (g : Nat → Nat) (c p : Nat) : col g c p < 2 := bN_lt _ _
theorem pairs_loop {ar br : Nat → Nat → Int32} {g k : Nat → Nat} (h : RV1 ar br g k) : ∀ (m n c s : Nat), c + m = 6 → m < n → f_X5_pairsAlike_4 ar n (nI s) (nI c) = some (nI (s + totS (fun c => prN (sS (col g c) 6 0)) m c)) := by
  intro m
  induction m with
  | zero =>
    intro n c s hp hn
    obtain ⟨n, rfl⟩ : ∃ z, n = z + 1 := ⟨n - 1, by omega⟩
    obtain rfl : c = 6 := by omega
    rw [f_X5_pairsAlike_4, if_pos (by decide)]; rfl
  | succ m ih =>
    intro n c s hp hn
    obtain ⟨n, rfl⟩ : ∃ z, n = z + 1 := ⟨n - 1, by omega⟩
    have h6 := (iS_pr (b := col g c) (col_lt g c)).2
    rw [f_X5_pairsAlike_4, if_neg (show ¬ ((6 : Int32) ≤ nI c) from nI_ge (a := c) (b := 6) (by omega) (by decide)), callers_ok h (by omega), bind1_some, bindv_def, bindv_def, bindv_def, pr_dec _ (by omega), nI_add, nI_1, ih n (c + 1) _ (by omega) (by omega), totS, Nat.add_assoc]
theorem alike_loop {ar br : Nat → Nat → Int32} {g k : Nat → Nat} (h : RV1 ar br g k) : ∀ (m n c s : Nat), c + m = 6 → m < n → f_X5_calledAlike_4 ar n (nI s) (nI c) = some (nI (s + totS (fun c => alN (sS (col g c) 6 0)) m c)) := by
  intro m
  induction m with
  | zero =>
    intro n c s hp hn
    obtain ⟨n, rfl⟩ : ∃ z, n = z + 1 := ⟨n - 1, by omega⟩
    obtain rfl : c = 6 := by omega
    rw [f_X5_calledAlike_4, if_pos (by decide)]; rfl
  | succ m ih =>
    intro n c s hp hn
    obtain ⟨n, rfl⟩ : ∃ z, n = z + 1 := ⟨n - 1, by omega⟩
    have h6 := (iS_pr (b := col g c) (col_lt g c)).2
    rw [f_X5_calledAlike_4, if_neg (show ¬ ((6 : Int32) ≤ nI c) from nI_ge (a := c) (b := 6) (by omega) (by decide)), callers_ok h (by omega), bind1_some]
    unfold f_X5_calledAlike_26 f_X5_calledAlike_29
    rw [bindv_def, bindv_def, bindv_def, nI_1, nI_1, totS]
    obtain ⟨S, hS⟩ : ∃ S, S = sS (col g c) 6 0 := ⟨_, rfl⟩
    rw [← hS] at h6 ⊢
    by_cases q : S = 0
    · rw [if_pos (by rw [q]; rfl), ih n (c + 1) _ (by omega) (by omega), show alN S = 1 from if_pos q, Nat.add_assoc]
    · rw [if_neg (show ¬ nI S = 0 from fun e => q (nI_inj (b := 0) (by omega) (by decide) e))]
      by_cases q6 : S = 6
      · rw [if_pos (by rw [q6]; rfl), ih n (c + 1) _ (by omega) (by omega), show alN S = 1 from (if_neg q).trans (if_pos q6), Nat.add_assoc]
      · rw [if_neg (show ¬ nI S = 6 from fun e => q6 (nI_inj (b := 6) (by omega) (by decide) e)), ih n (c + 1) _ (by omega) (by omega), show alN S = 0 from (if_neg q).trans (if_neg q6), Nat.zero_add]
theorem good_loop {ar br : Nat → Nat → Int32} {g k : Nat → Nat} (h : RV1 ar br g k) : ∀ (m n c s : Nat), c + m = 6 → m < n → f_X5_calledGood_4 ar n (nI s) (nI c) = some (nI (s + totS (fun c => gdN (sS (col g c) 6 0)) m c)) := by
  intro m
  induction m with
  | zero =>
    intro n c s hp hn
    obtain ⟨n, rfl⟩ : ∃ z, n = z + 1 := ⟨n - 1, by omega⟩
    obtain rfl : c = 6 := by omega
    rw [f_X5_calledGood_4, if_pos (by decide)]; rfl
  | succ m ih =>
    intro n c s hp hn
    obtain ⟨n, rfl⟩ : ∃ z, n = z + 1 := ⟨n - 1, by omega⟩
    have h6 := (iS_pr (b := col g c) (col_lt g c)).2
    rw [f_X5_calledGood_4, if_neg (show ¬ ((6 : Int32) ≤ nI c) from nI_ge (a := c) (b := 6) (by omega) (by decide)), callers_ok h (by omega), bind1_some]
    unfold f_X5_calledGood_23
    rw [bindv_def, bindv_def, bindv_def, nI_1, nI_1, totS]
    obtain ⟨S, hS⟩ : ∃ S, S = sS (col g c) 6 0 := ⟨_, rfl⟩
    rw [← hS] at h6 ⊢
    by_cases q6 : S = 6
    · rw [if_pos (by rw [q6]; rfl), ih n (c + 1) _ (by omega) (by omega), show gdN S = 1 from if_pos q6, Nat.add_assoc]
    · rw [if_neg (show ¬ nI S = 6 from fun e => q6 (nI_inj (b := 6) (by omega) (by decide) e)), ih n (c + 1) _ (by omega) (by omega), show gdN S = 0 from if_neg q6, Nat.zero_add]
/-- the model's inmost loop -/
theorem ag65 {ar br : Nat → Nat → Int32} {g k : Nat → Nat} (h : RV1 ar br g k) (K : Int32 → Int32 → Int32 → Int32 → Int32 → Int32 → Int32 → Option Int32) {c i : Nat} (hc : c < 6) (hi : i < 6) (w a3 a4 a6 : Int32) : ∀ (m n j P : Nat), j + m = 6 → m < n → f_X9_agreed_65 br K n w (nI P) a3 a4 (nI c) a6 (nI i) (nI j) = K w (nI (P + jS (col g c) i m j)) a3 a4 (nI c) a6 (nI (i + 1)) := by
  intro m
  induction m with
  | zero =>
    intro n j P hp hn
    obtain ⟨n, rfl⟩ : ∃ z, n = z + 1 := ⟨n - 1, by omega⟩
    obtain rfl : j = 6 := by omega
    rw [f_X9_agreed_65, if_pos (by decide), bindv_def, nI_1]; rfl
  | succ m ih =>
    intro n j P hp hn
    obtain ⟨n, rfl⟩ : ∃ z, n = z + 1 := ⟨n - 1, by omega⟩
    rw [f_X9_agreed_65, if_neg (show ¬ ((6 : Int32) ≤ nI j) from nI_ge (a := j) (b := 6) (by omega) (by decide)), nameOf_ok h hi hc, bind1_some, nameOf_ok h (by omega) hc, bind1_some]
    unfold f_X9_agreed_97
    rw [bindv_def, bindv_def, bindv_def, bindv_def, bindv_def, bindv_def, nI_1, show f_X9_one 1 = nI 1 from rfl, show f_X9_one 0 = nI 0 from rfl, nI_add, nI_add, jS]
    have b1 := bN_lt (g i) c
    have b2 := bN_lt (g j) c
    by_cases q : bN (g i) c = bN (g j) c
    · rw [if_pos (by rw [q]), ih n (j + 1) _ (by omega) (by omega), if_pos (show col g c i = col g c j from q), Nat.add_assoc]
    · rw [if_neg (fun e => q (nI_inj (by omega) (by omega) e)), ih n (j + 1) _ (by omega) (by omega), if_neg (show ¬ col g c i = col g c j from q), Nat.add_assoc]
theorem ag39 {ar br : Nat → Nat → Int32} {g k : Nat → Nat} (h : RV1 ar br g k) (K : Int32 → Int32 → Int32 → Int32 → Int32 → Option Int32) {c : Nat} (hc : c < 6) (w : Int32) (A G : Nat) : ∀ (m n i P S : Nat), i + m = 6 → m < n → S + sS (col g c) m i ≤ 6 → f_X9_agreed_39 br K n w (nI P) (nI A) (nI G) (nI c) (nI S) (nI i) = K w (nI (P + iS (col g c) m i)) (nI (A + alN (S + sS (col g c) m i))) (nI (G + gdN (S + sS (col g c) m i))) (nI (c + 1)) := by
  intro m
  induction m with
  | zero =>
    intro n i P S hp hn hS
    obtain ⟨n, rfl⟩ : ∃ z, n = z + 1 := ⟨n - 1, by omega⟩
    obtain rfl : i = 6 := by omega
    have hS : S ≤ 6 := hS
    rw [f_X9_agreed_39, if_pos (by decide)]
    unfold f_X9_agreed_127 f_X9_agreed_132 f_X9_agreed_151
    rw [show sS (col g c) 0 6 = 0 from rfl, show iS (col g c) 0 6 = 0 from rfl, Nat.add_zero, Nat.add_zero]
    unfold alN gdN
    simp only [show f_X9_one 1 = nI 1 from rfl, show f_X9_one 0 = nI 0 from rfl, bindv_def, nI_add, nI_1]
    by_cases q : S = 0
    · rw [if_pos (by rw [q]; rfl), if_neg (by rw [q]; decide), if_pos q, if_neg (by omega)]
    · rw [if_neg (show ¬ nI S = 0 from fun e => q (nI_inj (b := 0) (by omega) (by decide) e)), if_neg q]
      by_cases q6 : S = 6
      · rw [if_pos (by rw [q6]; rfl), if_pos (by rw [q6]; rfl), if_pos q6]
      · rw [if_neg (show ¬ nI S = 6 from fun e => q6 (nI_inj (b := 6) (by omega) (by decide) e)), if_neg (show ¬ nI S = 6 from fun e => q6 (nI_inj (b := 6) (by omega) (by decide) e)), if_neg q6]
  | succ m ih =>
    intro n i P S hp hn hS
    obtain ⟨n, rfl⟩ : ∃ z, n = z + 1 := ⟨n - 1, by omega⟩
    have e : S + sS (col g c) (m + 1) i = S + bN (g i) c + sS (col g c) m (i + 1) := by rw [sS, ← Nat.add_assoc]; rfl
    rw [e] at hS ⊢
    rw [f_X9_agreed_39, if_neg (show ¬ ((6 : Int32) ≤ nI i) from nI_ge (a := i) (b := 6) (by omega) (by decide)), nameOf_ok h (by omega) hc, bind1_some, bindv_def, bindv_def, nI_add, nI_1]
    obtain ⟨F, hF⟩ : ∃ n : Nat, n = 5000 := ⟨_, rfl⟩
    rw [← hF, ag65 h _ hc (by omega) _ _ _ _ (5 - i) F (i + 1) P (by omega) (by omega), ih n (i + 1) _ _ (by omega) (by omega) hS, iS, Nat.add_assoc]
theorem ag26 {ar br : Nat → Nat → Int32} {g k : Nat → Nat} (h : RV1 ar br g k) (w : Int32) : ∀ (m n c P A G : Nat), c + m = 6 → m < n → f_X9_agreed_26 br n w (nI P) (nI A) (nI G) (nI c) = if w = 0 then some (nI (P + totS (fun c => prN (sS (col g c) 6 0)) m c)) else if w = 1 then some (nI (A + totS (fun c => alN (sS (col g c) 6 0)) m c)) else some (nI (G + totS (fun c => gdN (sS (col g c) 6 0)) m c)) := by
  intro m
  induction m with
  | zero =>
    intro n c P A G hp hn
    obtain ⟨n, rfl⟩ : ∃ z, n = z + 1 := ⟨n - 1, by omega⟩
    obtain rfl : c = 6 := by omega
    rw [f_X9_agreed_26, if_pos (by decide)]; rfl
  | succ m ih =>
    intro n c P A G hp hn
    obtain ⟨n, rfl⟩ : ∃ z, n = z + 1 := ⟨n - 1, by omega⟩
    obtain ⟨e1, e2⟩ := iS_pr (b := col g c) (col_lt g c)
    obtain ⟨F, hF⟩ : ∃ n : Nat, n = 5000 := ⟨_, rfl⟩
    have q := ag39 h (f_X9_agreed_26 br n) (c := c) (by omega) w A G 6 F 0 P 0 (by decide) (by omega) (by rw [Nat.zero_add]; exact e2)
    rw [Nat.zero_add, e1] at q
    rw [f_X9_agreed_26, if_neg (show ¬ ((6 : Int32) ≤ nI c) from nI_ge (a := c) (b := 6) (by omega) (by decide)), ← hF]
    refine Eq.trans q ?_
    rw [ih n (c + 1) _ _ _ (by omega) (by omega), totS, totS, totS, Nat.add_assoc, Nat.add_assoc, Nat.add_assoc]
theorem st_agreed {fi : Nat → Int32} {fl : Nat → Int64} {ar : Nat → Nat → Int32} {gi : Nat → Int32} {gl : Nat → Int64} {br : Nat → Nat → Int32} (h : Rel fi fl ar gi gl br) (a0 : Int32) : ∃ (r : Int32), f_X8_agreed ar a0 = some r ∧ f_X9_agreed br a0 = some r ∧ Rel fi fl ar gi gl br := by
  have e9 : f_X9_in (Int32.toInt64 a0) 0 2 = f_X8_within a0 0 2 := within_in a0 0 2 0 2 (by decide) (by decide)
  have h' := h
  obtain ⟨v, -, -, -, -, ⟨g, k, hg⟩, -⟩ := h'
  obtain ⟨F, hF⟩ : ∃ n : Nat, n = 5000 := ⟨_, rfl⟩
  unfold f_X8_agreed f_X9_agreed f_X5_pairsAlike f_X5_calledAlike f_X5_calledGood
  rw [bindv_def, e9, ← hF]
  rcases within_c a0 2 (by decide) with q | ⟨q, t, ht, rfl⟩
  · have q' : f_X8_within a0 0 2 = 0 := q
    have ne : ∀ k : Nat, k ≤ 2 → ¬ a0 = nI k := by
      intro k hk e
      rw [e] at q
      rw [within_k (by decide) hk] at q
      exact absurd q (by decide)
    rw [q', if_pos rfl, if_neg (show ¬ a0 = 0 from ne 0 (by decide)), if_neg (show ¬ a0 = 1 from ne 1 (by decide)), if_neg (show ¬ a0 = 2 from ne 2 (by decide))]
    exact ⟨_, rfl, rfl, h⟩
  · have q' : f_X8_within (nI t) 0 2 = 1 := q
    rw [q', if_neg n10]
    have c1 := pairs_loop hg 6 F 0 0 (by decide) (by omega)
    have c2 := alike_loop hg 6 F 0 0 (by decide) (by omega)
    have c3 := good_loop hg 6 F 0 0 (by decide) (by omega)
    have c4 := ag26 hg (nI t) 6 F 0 0 0 0 (by decide) (by omega)
    rw [show f_X9_agreed_26 br F (nI t) 0 0 0 0 = f_X9_agreed_26 br F (nI t) (nI 0) (nI 0) (nI 0) (nI 0) from rfl, c4]
    rw [show f_X5_pairsAlike_4 ar F 0 0 = f_X5_pairsAlike_4 ar F (nI 0) (nI 0) from rfl, c1, show f_X5_calledAlike_4 ar F 0 0 = f_X5_calledAlike_4 ar F (nI 0) (nI 0) from rfl, c2, show f_X5_calledGood_4 ar F 0 0 = f_X5_calledGood_4 ar F (nI 0) (nI 0) from rfl, c3]
    rcases (show t = 0 ∨ t = 1 ∨ t = 2 by omega) with rfl | rfl | rfl
    · rw [if_pos (by decide), if_pos (by decide), bind1_some]; exact ⟨_, rfl, rfl, h⟩
    · rw [if_neg (by decide), if_pos (by decide), if_neg (by decide), if_pos (by decide), bind1_some]; exact ⟨_, rfl, rfl, h⟩
    · rw [if_neg (by decide), if_neg (by decide), if_pos (by decide), if_neg (by decide), if_neg (by decide), bind1_some]; exact ⟨_, rfl, rfl, h⟩
